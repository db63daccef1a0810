/-! calls: s holds; class and reference agree -/
def cS (s : Nat → Int32) (c : Nat) : Nat := Nn (rC s c 0)
def cD (s : Nat → Int32) (c : Nat) : Nat := Nn (rC s c 1)
def cG (s : Nat → Int32) (c : Nat) : Nat := Nn (rC s c 2)
def cA (s : Nat → Int32) (c : Nat) : Nat := Nn (rC s c 4)
def cN (s : Nat → Int32) (c : Nat) : Nat := Nn (rC s c 20)
def WFC1 (s : Nat → Int32) (nt nm c : Nat) : Prop := (rC s c 0 = nI (cS s c)) ∧ (cS s c < nt) ∧ (rC s c 1 = nI (cD s c)) ∧ (cD s c < nt) ∧ (s (1 + 3 * cD s c) = 0) ∧ (rC s c 2 = nI (cG s c)) ∧ (cG s c < nm) ∧ (rC s c 3 = 0 ∨ rC s c 3 = 1) ∧ (rC s c 4 = nI (cA s c)) ∧ (cA s c ≤ 5) ∧ (rC s c 20 = nI (cN s c)) ∧ (cN s c ≤ 8) ∧ (∀ i, i < cA s c → rC s c (5 + i) = 0 ∨ rC s c (5 + i) = 1 ∨ rC s c (5 + i) = 2 ∨ (rC s c (5 + i) = 3 ∧ ∃ t, t < cN s c ∧ rC s c (10 + i) = nI t)) ∧ (∀ j, j < cN s c → rC s c (21 + j) = 1 ∨ rC s c (21 + j) = 2) ∧ (∀ i j, i < j → j < cA s c → rC s c (15 + i) ≠ rC s c (15 + j)) ∧ (rC s c 3 = 0 → cA s c = nA s (cG s c)) ∧ up s (cS s c) (nT s (cG s c))
theorem WFC1.st {s : Nat → Int32} {nt nm c : Nat} (h : WFC1 s nt nm c) : rC s c 0 = nI (cS s c) := h.1
theorem WFC1.st' {s : Nat → Int32} {nt nm c : Nat} (h : WFC1 s nt nm c) : cS s c < nt := h.2.1
theorem WFC1.dy {s : Nat → Int32} {nt nm c : Nat} (h : WFC1 s nt nm c) : rC s c 1 = nI (cD s c) := h.2.2.1
theorem WFC1.dy' {s : Nat → Int32} {nt nm c : Nat} (h : WFC1 s nt nm c) : cD s c < nt := h.2.2.2.1
theorem WFC1.dc {s : Nat → Int32} {nt nm c : Nat} (h : WFC1 s nt nm c) : s (1 + 3 * cD s c) = 0 := h.2.2.2.2.1
theorem WFC1.tg {s : Nat → Int32} {nt nm c : Nat} (h : WFC1 s nt nm c) : rC s c 2 = nI (cG s c) := h.2.2.2.2.2.1
theorem WFC1.tg' {s : Nat → Int32} {nt nm c : Nat} (h : WFC1 s nt nm c) : cG s c < nm := h.2.2.2.2.2.2.1
theorem WFC1.fr {s : Nat → Int32} {nt nm c : Nat} (h : WFC1 s nt nm c) : rC s c 3 = 0 ∨ rC s c 3 = 1 := h.2.2.2.2.2.2.2.1
theorem WFC1.ar {s : Nat → Int32} {nt nm c : Nat} (h : WFC1 s nt nm c) : rC s c 4 = nI (cA s c) := h.2.2.2.2.2.2.2.2.1
theorem WFC1.ar' {s : Nat → Int32} {nt nm c : Nat} (h : WFC1 s nt nm c) : cA s c ≤ 5 := h.2.2.2.2.2.2.2.2.2.1
theorem WFC1.tn {s : Nat → Int32} {nt nm c : Nat} (h : WFC1 s nt nm c) : rC s c 20 = nI (cN s c) := h.2.2.2.2.2.2.2.2.2.2.1
theorem WFC1.tn' {s : Nat → Int32} {nt nm c : Nat} (h : WFC1 s nt nm c) : cN s c ≤ 8 := h.2.2.2.2.2.2.2.2.2.2.2.1
theorem WFC1.kd {s : Nat → Int32} {nt nm c : Nat} (h : WFC1 s nt nm c) : ∀ i, i < cA s c → rC s c (5 + i) = 0 ∨ rC s c (5 + i) = 1 ∨ rC s c (5 + i) = 2 ∨ (rC s c (5 + i) = 3 ∧ ∃ t, t < cN s c ∧ rC s c (10 + i) = nI t) := h.2.2.2.2.2.2.2.2.2.2.2.2.1
theorem WFC1.tk {s : Nat → Int32} {nt nm c : Nat} (h : WFC1 s nt nm c) : ∀ j, j < cN s c → rC s c (21 + j) = 1 ∨ rC s c (21 + j) = 2 := h.2.2.2.2.2.2.2.2.2.2.2.2.2.1
theorem WFC1.ky {s : Nat → Int32} {nt nm c : Nat} (h : WFC1 s nt nm c) : ∀ i j, i < j → j < cA s c → rC s c (15 + i) ≠ rC s c (15 + j) := h.2.2.2.2.2.2.2.2.2.2.2.2.2.2.1
theorem WFC1.ut {s : Nat → Int32} {nt nm c : Nat} (h : WFC1 s nt nm c) : rC s c 3 = 0 → cA s c = nA s (cG s c) := h.2.2.2.2.2.2.2.2.2.2.2.2.2.2.2.1
theorem WFC1.ts {s : Nat → Int32} {nt nm c : Nat} (h : WFC1 s nt nm c) : up s (cS s c) (nT s (cG s c)) := h.2.2.2.2.2.2.2.2.2.2.2.2.2.2.2.2
def WFC (s : Nat → Int32) (nt nm nc : Nat) : Prop := nc ≤ 8 ∧ s 234 = nI nc ∧ ∀ c, c < nc → WFC1 s nt nm c
def CK1 (s : Nat → Int32) (c : Nat) (k_st k_dy k_tg k_ac k_tc k_keys k_kinds k_vals k_tk : Nat → Int32) : Prop := (k_st c = rC s c 0) ∧ (k_dy c = rC s c 1) ∧ (k_tg c = rC s c 2) ∧ (k_ac c = rC s c 4) ∧ (k_tc c = rC s c 20) ∧ (∀ i, i < cA s c → k_keys (c * 5 + i) = rC s c (15 + i)) ∧ (∀ i, i < cA s c → k_kinds (c * 5 + i) = rC s c (5 + i)) ∧ (∀ i, i < cA s c → k_vals (c * 5 + i) = rC s c (10 + i)) ∧ (∀ j, j < cN s c → k_tk (c * 8 + j) = rC s c (21 + j))
theorem CK1.st {s : Nat → Int32} {c : Nat} {k_st k_dy k_tg k_ac k_tc k_keys k_kinds k_vals k_tk : Nat → Int32} (h : CK1 s c k_st k_dy k_tg k_ac k_tc k_keys k_kinds k_vals k_tk) : k_st c = rC s c 0 := h.1
theorem CK1.dy {s : Nat → Int32} {c : Nat} {k_st k_dy k_tg k_ac k_tc k_keys k_kinds k_vals k_tk : Nat → Int32} (h : CK1 s c k_st k_dy k_tg k_ac k_tc k_keys k_kinds k_vals k_tk) : k_dy c = rC s c 1 := h.2.1
theorem CK1.tg {s : Nat → Int32} {c : Nat} {k_st k_dy k_tg k_ac k_tc k_keys k_kinds k_vals k_tk : Nat → Int32} (h : CK1 s c k_st k_dy k_tg k_ac k_tc k_keys k_kinds k_vals k_tk) : k_tg c = rC s c 2 := h.2.2.1
theorem CK1.ac {s : Nat → Int32} {c : Nat} {k_st k_dy k_tg k_ac k_tc k_keys k_kinds k_vals k_tk : Nat → Int32} (h : CK1 s c k_st k_dy k_tg k_ac k_tc k_keys k_kinds k_vals k_tk) : k_ac c = rC s c 4 := h.2.2.2.1
theorem CK1.tc {s : Nat → Int32} {c : Nat} {k_st k_dy k_tg k_ac k_tc k_keys k_kinds k_vals k_tk : Nat → Int32} (h : CK1 s c k_st k_dy k_tg k_ac k_tc k_keys k_kinds k_vals k_tk) : k_tc c = rC s c 20 := h.2.2.2.2.1
theorem CK1.ky {s : Nat → Int32} {c : Nat} {k_st k_dy k_tg k_ac k_tc k_keys k_kinds k_vals k_tk : Nat → Int32} (h : CK1 s c k_st k_dy k_tg k_ac k_tc k_keys k_kinds k_vals k_tk) : ∀ i, i < cA s c → k_keys (c * 5 + i) = rC s c (15 + i) := h.2.2.2.2.2.1
theorem CK1.kd {s : Nat → Int32} {c : Nat} {k_st k_dy k_tg k_ac k_tc k_keys k_kinds k_vals k_tk : Nat → Int32} (h : CK1 s c k_st k_dy k_tg k_ac k_tc k_keys k_kinds k_vals k_tk) : ∀ i, i < cA s c → k_kinds (c * 5 + i) = rC s c (5 + i) := h.2.2.2.2.2.2.1
theorem CK1.vl {s : Nat → Int32} {c : Nat} {k_st k_dy k_tg k_ac k_tc k_keys k_kinds k_vals k_tk : Nat → Int32} (h : CK1 s c k_st k_dy k_tg k_ac k_tc k_keys k_kinds k_vals k_tk) : ∀ i, i < cA s c → k_vals (c * 5 + i) = rC s c (10 + i) := h.2.2.2.2.2.2.2.1
theorem CK1.tk {s : Nat → Int32} {c : Nat} {k_st k_dy k_tg k_ac k_tc k_keys k_kinds k_vals k_tk : Nat → Int32} (h : CK1 s c k_st k_dy k_tg k_ac k_tc k_keys k_kinds k_vals k_tk) : ∀ j, j < cN s c → k_tk (c * 8 + j) = rC s c (21 + j) := h.2.2.2.2.2.2.2.2
def CK (s : Nat → Int32) (nc : Nat) (k_count k_fs : Int32) (k_st k_dy k_tg k_ac k_tc k_keys k_kinds k_vals k_tk : Nat → Int32) : Prop := (k_count = nI nc) ∧ (∀ k, tb k_fs k = true ↔ k < nc ∧ rC s k 3 = 1) ∧ (∀ c, c < nc → CK1 s c k_st k_dy k_tg k_ac k_tc k_keys k_kinds k_vals k_tk)
theorem CK.n {s : Nat → Int32} {nc : Nat} {k_count k_fs : Int32} {k_st k_dy k_tg k_ac k_tc k_keys k_kinds k_vals k_tk : Nat → Int32} (h : CK s nc k_count k_fs k_st k_dy k_tg k_ac k_tc k_keys k_kinds k_vals k_tk) : k_count = nI nc := h.1
theorem CK.fs {s : Nat → Int32} {nc : Nat} {k_count k_fs : Int32} {k_st k_dy k_tg k_ac k_tc k_keys k_kinds k_vals k_tk : Nat → Int32} (h : CK s nc k_count k_fs k_st k_dy k_tg k_ac k_tc k_keys k_kinds k_vals k_tk) : ∀ k, tb k_fs k = true ↔ k < nc ∧ rC s k 3 = 1 := h.2.1
theorem CK.c {s : Nat → Int32} {nc : Nat} {k_count k_fs : Int32} {k_st k_dy k_tg k_ac k_tc k_keys k_kinds k_vals k_tk : Nat → Int32} (h : CK s nc k_count k_fs k_st k_dy k_tg k_ac k_tc k_keys k_kinds k_vals k_tk) : ∀ c, c < nc → CK1 s c k_st k_dy k_tg k_ac k_tc k_keys k_kinds k_vals k_tk := h.2.2
theorem rd_C {α : Type} {s : Nat → Int32} {c w : Nat} {k : Int32 → Option α} (hc : c < 8) (hw : w < 29) : rd 467 s (nI (235 + 29 * c + w)) k = k (rC s c w) := rd_nI (by omega) (by decide)
theorem e_at {c w : Nat} {x : Int32} (hx : x = nI w) : fX9_at (nI c) x = some (nI (235 + 29 * c + w)) := by
  subst hx
  unfold fX9_at
  rw [ixC]
theorem e_at0 (c : Nat) : fX9_at (nI c) 0 = some (nI (235 + 29 * c + 0)) := e_at rfl
theorem e_at1 (c : Nat) : fX9_at (nI c) 1 = some (nI (235 + 29 * c + 1)) := e_at rfl
theorem e_at2 (c : Nat) : fX9_at (nI c) 2 = some (nI (235 + 29 * c + 2)) := e_at rfl
theorem e_at3 (c : Nat) : fX9_at (nI c) 3 = some (nI (235 + 29 * c + 3)) := e_at rfl
theorem e_at4 (c : Nat) : fX9_at (nI c) 4 = some (nI (235 + 29 * c + 4)) := e_at rfl
theorem e_at20 (c : Nat) : fX9_at (nI c) 20 = some (nI (235 + 29 * c + 20)) := e_at rfl
theorem o5 (i : Nat) : (5 : Int32) + nI i = nI (5 + i) := nI_add 5 i
theorem o10 (i : Nat) : (10 : Int32) + nI i = nI (10 + i) := nI_add 10 i
theorem o15 (i : Nat) : (15 : Int32) + nI i = nI (15 + i) := nI_add 15 i
theorem o21 (i : Nat) : (21 : Int32) + nI i = nI (21 + i) := nI_add 21 i
theorem ix8 (m i : Nat) : nI m * 8 + nI i = nI (m * 8 + i) := by
  show nI m * nI 8 + nI i = _
  rw [nI_mul, nI_add]
section C1
variable {s : Nat → Int32} {nt nm nc : Nat} {m_count : Int32} {m_type m_name m_arity m_keys m_defs : Nat → Int32} {k_count k_fs : Int32} {k_st k_dy k_tg k_ac k_tc k_keys k_kinds k_vals k_tk : Nat → Int32}
theorem rd_l234' {α : Type} {k : Int32 → Option α} (hk : WFC s nt nm nc) : rd 467 s 234 k = k (nI nc) := by
  rw [rd_l234, hk.2.1]
theorem e_isCall (hk : WFC s nt nm nc) (x : Int32) : ∃ r, fX9_isCall s x = some r ∧ isb r (∃ c, c < nc ∧ x = nI c) := by
  have h8 := hk.1
  unfold fX9_isCall
  rw [rd_l234' hk]
  obtain ⟨r, hr, hb⟩ := e_in x 0 (nI nc - 1)
  rw [hr, bn_s]
  exact ⟨r, isb_rb hb, isb_iff hb (in_idx (by omega))⟩
theorem e_kexists (hk : WFC s nt nm nc) (hc : CK s nc k_count k_fs k_st k_dy k_tg k_ac k_tc k_keys k_kinds k_vals k_tk) (x : Int32) : ∃ r, fX0_exists k_count x = some r ∧ isb r (∃ c, c < nc ∧ x = nI c) := by
  have h8 := hk.1
  unfold fX0_exists
  rw [hc.n]
  rcases pk_ix x (n := nc) (by omega) with h | h | ⟨j, hj, rfl⟩
  · rw [if_pos h]
    exact ⟨0, rfl, isb_f (fun ⟨t, ht, e⟩ => by rw [e] at h; exact nI_pos (by omega) h)⟩
  · by_cases g : x < 0
    · rw [if_pos g]
      exact ⟨0, rfl, isb_f (fun ⟨t, ht, e⟩ => by rw [e] at g; exact nI_pos (by omega) g)⟩
    · rw [if_neg g, if_pos h]
      exact ⟨0, rfl, isb_f (fun ⟨t, ht, e⟩ => by rw [e] at h; exact nI_ge ht (by omega) h)⟩
  · rw [if_neg (nI_pos (by omega)), if_neg (nI_ge hj (by omega))]
    exact ⟨1, rfl, isb_t ⟨j, hj, rfl⟩⟩
theorem e_isArgument (hk : WFC s nt nm nc) (x y : Int32) : ∃ r, fX9_isArgument s x y = some r ∧ isb r (∃ c i, c < nc ∧ x = nI c ∧ i < cA s c ∧ y = nI i) := by
  have h8 := hk.1
  unfold fX9_isArgument
  obtain ⟨r, hr, hb⟩ := e_isCall hk x
  rw [hr, bn_s]
  by_cases g : ∃ c, c < nc ∧ x = nI c
  · rw [if_neg (fun q => (isb_0 hb).mp q g)]
    obtain ⟨c, hcn, rfl⟩ := g
    have W := hk.2.2 c hcn
    have w5 := W.ar'
    rw [e_at4, bn_s, rd_C (by omega) (by decide), W.ar]
    obtain ⟨r2, hr2, hb2⟩ := e_in y 0 (nI (cA s c) - 1)
    have hb3 := isb_iff hb2 (in_idx (by omega))
    rw [hr2, bn_s]
    by_cases g2 : ∃ j, j < cA s c ∧ y = nI j
    · rw [if_neg (fun q => (isb_0 hb3).mp q g2)]
      obtain ⟨i, hi, rfl⟩ := g2
      exact ⟨1, rfl, isb_t ⟨c, i, hcn, rfl, hi, rfl⟩⟩
    · rw [if_pos ((isb_0 hb3).mpr g2)]
      refine ⟨0, rfl, isb_f (fun ⟨c', i, h1, h2, h3, h4⟩ => g2 ⟨i, ?_, h4⟩)⟩
      rw [nI_inj (by omega) (by omega) h2]
      exact h3
  · rw [if_pos ((isb_0 hb).mpr g)]
    exact ⟨0, rfl, isb_f (fun ⟨c', i, h1, h2, _⟩ => g ⟨c', h1, h2⟩)⟩
theorem e_hasArgument (hk : WFC s nt nm nc) (hc : CK s nc k_count k_fs k_st k_dy k_tg k_ac k_tc k_keys k_kinds k_vals k_tk) (x y : Int32) : ∃ r, fX0_hasArgument k_count k_ac x y = some r ∧ isb r (∃ c i, c < nc ∧ x = nI c ∧ i < cA s c ∧ y = nI i) := by
  have h8 := hk.1
  unfold fX0_hasArgument
  obtain ⟨r, hr, hb⟩ := e_kexists hk hc x
  rw [hr, bn_s]
  by_cases g : ∃ c, c < nc ∧ x = nI c
  · rw [if_neg (fun q => (isb_0 hb).mp q g)]
    obtain ⟨c, hcn, rfl⟩ := g
    have W := hk.2.2 c hcn
    have w5 := W.ar'
    by_cases g0 : y < 0
    · rw [if_pos g0]
      exact ⟨0, rfl, isb_f (fun ⟨c', i, h1, h2, h3, h4⟩ => by
        rw [nI_inj (a := c) (b := c') (by omega) (by omega) h2] at w5
        rw [h4] at g0; exact nI_pos (by omega) g0)⟩
    · rw [if_neg g0, rd_nI (by omega) (by decide), (hc.c c hcn).ac, W.ar]
      rcases pk_ix y (n := cA s c) (by omega) with h | h | ⟨j, hj, rfl⟩
      · exact absurd h g0
      · rw [if_pos h]
        exact ⟨0, rfl, isb_f (fun ⟨c', i, h1, h2, h3, h4⟩ => by
          have e := nI_inj (a := c) (b := c') (by omega) (by omega) h2
          subst e
          rw [h4] at h
          exact nI_ge h3 (by omega) h)⟩
      · rw [if_neg (nI_ge hj (by omega))]
        exact ⟨1, rfl, isb_t ⟨c, j, hcn, rfl, hj, rfl⟩⟩
  · rw [if_pos ((isb_0 hb).mpr g)]
    exact ⟨0, rfl, isb_f (fun ⟨c', i, h1, h2, _⟩ => g ⟨c', h1, h2⟩)⟩
theorem e_isFrozen (hk : WFC s nt nm nc) {c : Nat} (hcn : c < nc) : ∃ r, fX9_isFrozen s (nI c) = some r ∧ isb r (rC s c 3 = 1) := by
  have h8 := hk.1
  unfold fX9_isFrozen
  rw [e_at3, bn_s, rd_C (by omega) (by decide)]
  by_cases g : rC s c 3 = 1
  · rw [if_pos g]
    exact ⟨1, rfl, isb_t g⟩
  · rw [if_neg g]
    exact ⟨0, rfl, isb_f g⟩
theorem e_kisFrozen (hk : WFC s nt nm nc) (hc : CK s nc k_count k_fs k_st k_dy k_tg k_ac k_tc k_keys k_kinds k_vals k_tk) {c : Nat} (hcn : c < nc) : ∃ r, fX0_isFrozen k_fs (nI c) = some r ∧ isb r (rC s c 3 = 1) := by
  have h8 := hk.1
  unfold fX0_isFrozen
  obtain ⟨r, hr, hb⟩ := e_contains k_fs (k := c) (by omega)
  rw [hr, bn_s]
  exact ⟨r, isb_rb hb, isb_iff hb ((hc.fs c).trans ⟨fun h => h.2, fun h => ⟨hcn, h⟩⟩)⟩
/-- the call's arguments belong to the target's present parameters -/
def utd (s : Nat → Int32) (c : Nat) : Prop := rC s c 4 = rM s (cG s c) 2 ∧ ∀ i, i < cA s c → rC s c (15 + i) = rM s (cG s c) (3 + i)
theorem e_isUpToDate (hm : WFM s nt nm) (hk : WFC s nt nm nc) {c : Nat} (hcn : c < nc) : ∃ r, fX9_isUpToDate s (nI c) = some r ∧ isb r (utd s c) := by
  have h8 := hk.1
  have h16 := hm.1
  have W := hk.2.2 c hcn
  have w5 := W.ar'
  have wg := W.tg'
  unfold fX9_isUpToDate jX9_isUpToDate_39
  rw [e_at2, bn_s, rd_C (by omega) (by decide), e_at4, bn_s, rd_C (by omega) (by decide), W.tg, e_of2 (by omega), bn_s]
  have key : ∀ n i (y : Int32), i ≤ cA s c → cA s c - i < n → isb y (rC s c 4 = rM s (cG s c) 2 ∧ ∀ j, j < i → rC s c (15 + j) = rM s (cG s c) (3 + j)) → ∃ r, lX9_isUpToDate_44 s n (nI c) (nI (cG s c)) (rC s c 4) y (nI i) = some r ∧ isb r (utd s c) := by
    intro n
    induction n with
    | zero => intro i y _ h; omega
    | succ n ih =>
      intro i y hi hn hy
      rw [lX9_isUpToDate_44_s]
      by_cases hlt : i < cA s c
      · rw [if_neg (by rw [W.ar]; exact up_i (by omega) hlt)]
        rcases hy with ⟨rfl, hp⟩ | ⟨rfl, hp⟩
        · rw [if_neg (by decide), o15, e_at rfl, bn_s, rd_C (by omega) (by omega), o3, e_of (w := 3 + i) (by omega) (by omega) rfl, bn_s]
          unfold jX9_isUpToDate_87
          by_cases g : rC s c (15 + i) = rM s (cG s c) (3 + i)
          · rw [if_pos g, nI_1]
            exact ih (i + 1) 1 (by omega) (by omega) (isb_t ⟨hp.1, all_succ.mpr ⟨hp.2, g⟩⟩)
          · rw [if_neg g, nI_1]
            exact ih (i + 1) 0 (by omega) (by omega) (isb_f (fun z => g (all_succ.mp z.2).2))
        · rw [if_pos rfl]
          exact ⟨0, rfl, isb_f (fun z => hp ⟨z.1, fun j h => z.2 j (by omega)⟩)⟩
      · have e : i = cA s c := by omega
        subst e
        rw [if_pos (by rw [W.ar]; exact up_N (by omega)), isb_rb hy]
        exact ⟨y, rfl, hy⟩
  by_cases g : rC s c 4 = rM s (cG s c) 2
  · rw [if_pos g]
    exact key 5000 0 1 (Nat.zero_le _) (by omega) (isb_t ⟨g, fun j h => absurd h (Nat.not_lt_zero j)⟩)
  · rw [if_neg g]
    exact key 5000 0 0 (Nat.zero_le _) (by omega) (isb_f (fun z => g z.1))
theorem e_kkeyOf (hk : WFC s nt nm nc) (hc : CK s nc k_count k_fs k_st k_dy k_tg k_ac k_tc k_keys k_kinds k_vals k_tk) {c i : Nat} (hcn : c < nc) (hi : i < cA s c) : fX0_keyOf k_keys (nI c) (nI i) = some (rC s c (15 + i)) := by
  have h8 := hk.1
  have w5 := (hk.2.2 c hcn).ar'
  unfold fX0_keyOf
  rw [ix5, rd_nI (by omega) (by decide), (hc.c c hcn).ky i hi]
theorem e_kkindOf (hk : WFC s nt nm nc) (hc : CK s nc k_count k_fs k_st k_dy k_tg k_ac k_tc k_keys k_kinds k_vals k_tk) {c i : Nat} (hcn : c < nc) (hi : i < cA s c) : fX0_kindOf k_kinds (nI c) (nI i) = some (rC s c (5 + i)) := by
  have h8 := hk.1
  have w5 := (hk.2.2 c hcn).ar'
  unfold fX0_kindOf
  rw [ix5, rd_nI (by omega) (by decide), (hc.c c hcn).kd i hi]
theorem e_kvalueOf (hk : WFC s nt nm nc) (hc : CK s nc k_count k_fs k_st k_dy k_tg k_ac k_tc k_keys k_kinds k_vals k_tk) {c i : Nat} (hcn : c < nc) (hi : i < cA s c) : fX0_valueOf k_vals (nI c) (nI i) = some (rC s c (10 + i)) := by
  have h8 := hk.1
  have w5 := (hk.2.2 c hcn).ar'
  unfold fX0_valueOf
  rw [ix5, rd_nI (by omega) (by decide), (hc.c c hcn).vl i hi]
theorem e_ktempOf (hk : WFC s nt nm nc) (hc : CK s nc k_count k_fs k_st k_dy k_tg k_ac k_tc k_keys k_kinds k_vals k_tk) {c j : Nat} (hcn : c < nc) (hj : j < cN s c) : fX0_temporaryKindOf k_tk (nI c) (nI j) = some (rC s c (21 + j)) := by
  have h8 := hk.1
  have w5 := (hk.2.2 c hcn).tn'
  unfold fX0_temporaryKindOf
  rw [ix8, rd_nI (by omega) (by decide), (hc.c c hcn).tk j hj]
theorem e_fitsTarget (hm : WFM s nt nm) (hk : WFC s nt nm nc) (hd : CMt s nm m_count m_type m_name m_arity m_keys m_defs) (hc : CK s nc k_count k_fs k_st k_dy k_tg k_ac k_tc k_keys k_kinds k_vals k_tk) {c : Nat} (hcn : c < nc) : ∃ r, fX0_fitsTarget k_tg k_ac k_keys m_arity m_keys (nI c) = some r ∧ isb r (utd s c) := by
  have h8 := hk.1
  have h16 := hm.1
  have W := hk.2.2 c hcn
  have K := hc.c c hcn
  have w5 := W.ar'
  have wg := W.tg'
  have M := hd.2 _ wg
  unfold fX0_fitsTarget
  rw [rd_nI (by omega) (by decide), K.tg, W.tg, rd_nI (by omega) (by decide), K.ac, rd_nI (by omega) (by decide), M.2.2.1]
  by_cases g : rC s c 4 = rM s (cG s c) 2
  · rw [if_pos g]
    have hA : nA s (cG s c) = cA s c := by unfold nA cA; rw [g]
    obtain ⟨r, hr, h⟩ := all_loop (g := fun n' i => lX0_fitsTarget_27 k_tg k_ac k_keys m_arity m_keys n' (nI c) (nI (cG s c)) i) (N := cA s c) (P := fun i => rC s c (15 + i) = rM s (cG s c) (3 + i)) (e1 := 0) (e2 := 1) (fun n' i hi => by
      show (_ → lX0_fitsTarget_27 k_tg k_ac k_keys m_arity m_keys (n' + 1) (nI c) (nI (cG s c)) (nI i) = lX0_fitsTarget_27 k_tg k_ac k_keys m_arity m_keys n' (nI c) (nI (cG s c)) (nI i + 1)) ∧ (_ → lX0_fitsTarget_27 k_tg k_ac k_keys m_arity m_keys (n' + 1) (nI c) (nI (cG s c)) (nI i) = some 0)
      rw [lX0_fitsTarget_27_s, rd_nI (by omega) (by decide), K.ac, W.ar, if_neg (up_i (by omega) hi), e_kkeyOf hk hc hcn hi, bn_s, e_keyOf hm hd wg (by omega), bn_s]
      exact ⟨fun h => if_pos h, fun h => if_neg h⟩) (fun n' => by
      show lX0_fitsTarget_27 k_tg k_ac k_keys m_arity m_keys (n' + 1) (nI c) (nI (cG s c)) (nI (cA s c)) = some 1
      rw [lX0_fitsTarget_27_s, rd_nI (by omega) (by decide), K.ac, W.ar, if_pos (up_N (by omega))]) 5000 0 (Nat.zero_le _) (by omega)
    refine ⟨r, hr, ?_⟩
    rcases h with ⟨h1, h2⟩ | ⟨h1, t, _, h2, h3⟩
    · exact Or.inl ⟨h1, g, fun i hi => h2 i (Nat.zero_le i) hi⟩
    · exact Or.inr ⟨h1, fun z => h3 (z.2 t h2)⟩
  · rw [if_neg g]
    exact ⟨0, rfl, isb_f (fun z => g z.1)⟩
theorem e_withTargetIn (hm : WFM s nt nm) (hk : WFC s nt nm nc) (hc : CK s nc k_count k_fs k_st k_dy k_tg k_ac k_tc k_keys k_kinds k_vals k_tk) (set : Int32) : ∃ x, fX0_withTargetIn k_count k_tg set = some x ∧ ∀ k, tb x k = true ↔ k < nc ∧ tb set (cG s k) = true := by
  have h8 := hk.1
  have h16 := hm.1
  unfold fX0_withTargetIn
  obtain ⟨x, hx, hb⟩ := bits0 (g := fun n' acc i => lX0_withTargetIn_4 k_count k_tg n' set acc i) (N := nc) (P := fun c k => k = c ∧ tb set (cG s c) = true) (fun n' i acc hi => by
    show ∃ acc', lX0_withTargetIn_4 k_count k_tg (n' + 1) set acc (nI i) = lX0_withTargetIn_4 k_count k_tg n' set acc' (nI i + 1) ∧ _
    have W := hk.2.2 i hi
    have wg := W.tg'
    rw [lX0_withTargetIn_4_s, if_neg (by rw [hc.n]; exact up_i (by omega) hi), rd_nI (by omega) (by decide), (hc.c i hi).tg, W.tg]
    obtain ⟨r, hr, hb⟩ := e_contains set (k := cG s i) (by omega)
    rw [hr, bn_s]
    by_cases g : tb set (cG s i) = true
    · rw [if_neg (fun q => (isb_0 hb).mp q g), e_bit, bn_s]
      refine ⟨_, rfl, fun k => ?_⟩
      rw [tb_ort, tb_bitt (by omega)]
      exact ⟨fun h => h.elim Or.inl (fun e => Or.inr ⟨e, g⟩), fun h => h.elim Or.inl (fun e => Or.inr e.1)⟩
    · rw [if_pos ((isb_0 hb).mpr g)]
      exact ⟨acc, rfl, fun k => ⟨Or.inl, fun h => h.elim id (fun e => absurd e.2 g)⟩⟩) (fun n' acc => by
    show lX0_withTargetIn_4 k_count k_tg (n' + 1) set acc (nI nc) = some acc
    rw [lX0_withTargetIn_4_s, if_pos (by rw [hc.n]; exact up_N (by omega))]) (by omega)
  refine ⟨x, hx, fun k => ?_⟩
  rw [hb k, ex_self (P := fun c => tb set (cG s c) = true)]
end C1
