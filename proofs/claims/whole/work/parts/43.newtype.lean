/-! declareType: the new state -/
theorem tb_neg {x : Int32} (h : x < 0) : tb x 31 = true := by
  have h1 : x.toBitVec.toInt < 0 := by
    have := Int32.lt_iff_toInt_lt.mp h
    simpa using this
  have h2 : x.toBitVec.msb = true := by
    rw [BitVec.msb_eq_toInt]
    exact decide_eq_true h1
  rw [BitVec.msb_eq_getLsbD_last] at h2
  exact h2
def nTy (s : Nat → Int32) (nt : Nat) (x1 x2 x3 : Int32) : Nat → Int32 := upd (upd (upd (upd s (1 + 3 * nt) x1) (1 + 3 * nt + 1) x2) (1 + 3 * nt + 2) x3) 0 (nI (nt + 1))
section NT
variable {s : Nat → Int32} {nt nm nc : Nat} {t_count t_ifs : Int32} {t_sup : Nat → Int32} {x1 x2 x3 : Int32}
theorem nTy_o {j : Nat} (h0 : j ≠ 0) (h : j < 1 + 3 * nt ∨ 1 + 3 * nt + 2 < j) : nTy s nt x1 x2 x3 j = s j := by
  unfold nTy
  rw [upd_n h0, upd_n (by omega), upd_n (by omega), upd_n (by omega)]
theorem nTy_0 : nTy s nt x1 x2 x3 0 = nI (nt + 1) := upd_s
theorem nTy_1 : nTy s nt x1 x2 x3 (1 + 3 * nt) = x1 := by
  unfold nTy
  rw [upd_n (by omega), upd_n (by omega), upd_n (by omega), upd_s]
theorem nTy_2 : nTy s nt x1 x2 x3 (1 + 3 * nt + 1) = x2 := by
  unfold nTy
  rw [upd_n (by omega), upd_n (by omega), upd_s]
theorem nTy_3 : nTy s nt x1 x2 x3 (1 + 3 * nt + 2) = x3 := by
  unfold nTy
  rw [upd_n (by omega), upd_s]
/-- the words of a valid declaration -/
def okT (s : Nat → Int32) (nt : Nat) (x1 x2 x3 : Int32) : Prop := (x1 = 0 ∨ x1 = 1) ∧ (∀ k, tb x3 k = true → k < nt ∧ s (1 + 3 * k) = 1) ∧ (x2 = -1 ∨ (x1 = 0 ∧ ∃ t, t < nt ∧ x2 = nI t ∧ s (1 + 3 * t) = 0))
theorem nTy_dir {x y : Nat} (hx : x < nt) : dir (nTy s nt x1 x2 x3) x y ↔ dir s x y := by
  unfold dir
  rw [nTy_o (j := 1 + 3 * x + 1) (by omega) (by omega), nTy_o (j := 1 + 3 * x + 2) (by omega) (by omega)]
theorem nTy_dirn {y : Nat} : dir (nTy s nt x1 x2 x3) nt y ↔ (y < nt ∧ x2 = nI y) ∨ tb x3 y = true := by
  unfold dir
  rw [nTy_2, nTy_3]
theorem nTy_WFT (hw : WFT s nt) (hnt : nt < 8) (ok : okT s nt x1 x2 x3) : WFT (nTy s nt x1 x2 x3) (nt + 1) := by
  obtain ⟨o1, o2, o3⟩ := ok
  refine ⟨hnt, nTy_0, fun t ht => ?_⟩
  by_cases e : t = nt
  · subst e
    rw [nTy_1, nTy_2, nTy_3]
    refine ⟨o1, ?_, fun k hk => ?_⟩
    · rcases o3 with o3 | ⟨q1, p, hp, q2, q3⟩
      · exact Or.inl o3
      · exact Or.inr ⟨p, hp, q2, q1, by rw [nTy_o (by omega) (by omega)]; exact q3⟩
    · obtain ⟨q1, q2⟩ := o2 k hk
      exact ⟨q1, by rw [nTy_o (by omega) (by omega)]; exact q2⟩
  · obtain ⟨w1, w2, w3⟩ := hw.2.2 t (by omega)
    rw [nTy_o (j := 1 + 3 * t) (by omega) (by omega), nTy_o (j := 1 + 3 * t + 1) (by omega) (by omega), nTy_o (j := 1 + 3 * t + 2) (by omega) (by omega)]
    refine ⟨w1, ?_, fun k hk => ?_⟩
    · rcases w2 with w2 | ⟨p, hp, q1, q2, q3⟩
      · exact Or.inl w2
      · exact Or.inr ⟨p, hp, q1, q2, by rw [nTy_o (by omega) (by omega)]; exact q3⟩
    · obtain ⟨q1, q2⟩ := w3 k hk
      exact ⟨q1, by rw [nTy_o (by omega) (by omega)]; exact q2⟩
theorem nTy_up (hw : WFT s nt) {a b : Nat} (ha : a < nt) : up (nTy s nt x1 x2 x3) a b ↔ up s a b := by
  constructor
  · intro h
    refine (h (fun x => x < nt ∧ up s a x) ⟨ha, up_rfl a⟩ (fun x y hx hd => ?_)).2
    obtain ⟨q1, q2⟩ : x < nt ∧ up s a x := hx
    have hd' := (nTy_dir q1).mp hd
    have := dir_lt hw q1 hd'
    exact ⟨by omega, up_dir q2 hd'⟩
  · intro h
    refine (h (fun x => x < nt ∧ up (nTy s nt x1 x2 x3) a x) ⟨ha, up_rfl a⟩ (fun x y hx hd => ?_)).2
    obtain ⟨q1, q2⟩ : x < nt ∧ up (nTy s nt x1 x2 x3) a x := hx
    have := dir_lt hw q1 hd
    exact ⟨by omega, up_dir q2 ((nTy_dir q1).mpr hd)⟩
/-- what the new type inherits -/
def inh (s : Nat → Int32) (nt : Nat) (x2 x3 : Int32) (k : Nat) : Prop := ∃ b, ((b < nt ∧ x2 = nI b) ∨ tb x3 b = true) ∧ up s b k
theorem nTy_upn (hw : WFT s nt) (ok : okT s nt x1 x2 x3) {k : Nat} : up (nTy s nt x1 x2 x3) nt k ↔ inh s nt x2 x3 k ∨ k = nt := by
  constructor
  · intro h
    rcases up_cases h with e | ⟨b, h1, h2⟩
    · exact Or.inr e.symm
    · have h1 := nTy_dirn.mp h1
      have hb : b < nt := h1.elim (fun z => z.1) (fun z => (ok.2.1 b z).1)
      exact Or.inl ⟨b, h1, (nTy_up hw hb).mp h2⟩
  · rintro (⟨b, h1, h2⟩ | e)
    · have hb : b < nt := h1.elim (fun z => z.1) (fun z => (ok.2.1 b z).1)
      exact up_trans (up_dir (up_rfl nt) (nTy_dirn.mpr h1)) ((nTy_up hw hb).mpr h2)
    · rw [e]
      exact up_rfl nt
theorem nTy_CT (hw : WFT s nt) (hnt : nt < 8) (ok : okT s nt x1 x2 x3) (ct : CT s nt t_count t_ifs t_sup) {v : Int32} (hv : ∀ k, tb v k = true ↔ inh s nt x2 x3 k) : CT (nTy s nt x1 x2 x3) (nt + 1) (nI (nt + 1)) (if x1 = 1 then t_ifs ||| (1 <<< (nI nt &&& 31)) else t_ifs) (upd t_sup nt (v ||| (1 <<< (nI nt &&& 31)))) := by
  refine ⟨rfl, fun t ht k => ?_, fun k => ?_⟩
  · by_cases e : t = nt
    · subst e
      rw [upd_s, tb_ort, hv k, tb_bitt (by omega), nTy_upn hw ok]
    · rw [upd_n e, ct.2.1 t (by omega) k, nTy_up hw (by omega)]
  · by_cases e : k = nt
    · subst e
      rw [nTy_1]
      by_cases g : x1 = 1
      · rw [if_pos g, tb_ort, tb_bitt (by omega)]
        exact ⟨fun _ => ⟨by omega, g⟩, fun _ => Or.inr rfl⟩
      · rw [if_neg g, ct.2.2 k]
        exact ⟨fun h => absurd h.1 (by omega), fun h => absurd h.2 g⟩
    · have hc := ct.2.2 k
      have ho : k < nt → nTy s nt x1 x2 x3 (1 + 3 * k) = s (1 + 3 * k) := fun h => nTy_o (by omega) (by omega)
      have fin : (k < nt ∧ s (1 + 3 * k) = 1) ↔ (k < nt + 1 ∧ nTy s nt x1 x2 x3 (1 + 3 * k) = 1) := by
        constructor
        · rintro ⟨h1, h2⟩
          exact ⟨by omega, by rw [ho h1]; exact h2⟩
        · rintro ⟨h1, h2⟩
          rw [ho (by omega)] at h2
          exact ⟨by omega, h2⟩
      by_cases g : x1 = 1
      · rw [if_pos g, tb_ort, tb_bitt (by omega), hc, ← fin]
        exact ⟨fun h => h.elim id (fun q => absurd q e), Or.inl⟩
      · rw [if_neg g, hc, fin]
theorem WFM_mono (hm : WFM s nt nm) {nt' : Nat} (h : nt ≤ nt') : WFM s nt' nm := ⟨hm.1, hm.2.1, fun m hmm => by
  obtain ⟨w1, w2, w3⟩ := hm.2.2 m hmm
  exact ⟨w1, Nat.lt_of_lt_of_le w2 h, w3⟩⟩
theorem nTy_WFC (hw : WFT s nt) (hm : WFM s nt nm) (hk : WFC s nt nm nc) (hnt : nt < 8) : WFC (nTy s nt x1 x2 x3) (nt + 1) nm nc := by
  have h8 := hk.1
  have h16 := hm.1
  refine ⟨hk.1, (nTy_o (by omega) (by omega)).trans hk.2.1, fun c hc => ?_⟩
  have W := hk.2.2 c hc
  have d' := W.dy'
  have t' := W.tg'
  refine WFC1_frame W (fun w hw => nTy_o (by omega) (by omega)) (by omega) (Nat.le_refl _) (nTy_o (by omega) (by omega)) (fun _ => ?_) (fun h => ?_)
  · unfold nA rM
    rw [nTy_o (by omega) (by omega)]
  · have e : nT (nTy s nt x1 x2 x3) (cG s c) = nT s (cG s c) := by
      unfold nT rM
      rw [nTy_o (by omega) (by omega)]
    rw [e]
    exact (nTy_up hw W.st').mpr h
theorem CK_frame {s' : Nat → Int32} {k_count k_fs : Int32} {k_st k_dy k_tg k_ac k_tc k_keys k_kinds k_vals k_tk : Nat → Int32} (hk : WFC s nt nm nc) (hc : CK s nc k_count k_fs k_st k_dy k_tg k_ac k_tc k_keys k_kinds k_vals k_tk) (hf : ∀ c w, c < nc → w < 29 → rC s' c w = rC s c w) : CK s' nc k_count k_fs k_st k_dy k_tg k_ac k_tc k_keys k_kinds k_vals k_tk := by
  refine ⟨hc.n, fun k => ?_, fun c hcc => CK1_frame (hk.2.2 c hcc) (hc.c c hcc) (fun w hw => hf c w hcc hw)⟩
  rw [hc.fs k]
  constructor
  · rintro ⟨h1, h2⟩
    exact ⟨h1, by rw [hf k 3 h1 (by decide)]; exact h2⟩
  · rintro ⟨h1, h2⟩
    exact ⟨h1, by rw [hf k 3 h1 (by decide)] at h2; exact h2⟩
end NT
