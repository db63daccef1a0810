/-! a state that agrees in a region keeps that region's properties -/
def FT (s s' : Nat → Int32) : Prop := ∀ k, k < 25 → s' k = s k
def FM (s s' : Nat → Int32) : Prop := ∀ k, 25 ≤ k → k < 234 → s' k = s k
def FC (s s' : Nat → Int32) : Prop := ∀ k, 234 ≤ k → k < 467 → s' k = s k
section Z1
variable {s s' : Nat → Int32} {nt nm nc : Nat}
theorem dir_frame (hf : FT s s') {x y : Nat} (hx : x < 8) : dir s' x y ↔ dir s x y := by
  unfold dir
  rw [hf (1 + 3 * x + 1) (by omega), hf (1 + 3 * x + 2) (by omega)]
theorem up_frame (hw : WFT s nt) (hf : FT s s') {a b : Nat} (ha : a < nt) : up s' a b ↔ up s a b := by
  have h8 := hw.1
  constructor
  · intro h
    refine (h (fun x => x < nt ∧ up s a x) ⟨ha, up_rfl a⟩ (fun x y hx hd => ?_)).2
    obtain ⟨x1, x2⟩ : x < nt ∧ up s a x := hx
    have hd' := (dir_frame hf (by omega)).mp hd
    have := dir_lt hw x1 hd'
    exact ⟨by omega, up_dir x2 hd'⟩
  · intro h
    refine (h (fun x => x < nt ∧ up s' a x) ⟨ha, up_rfl a⟩ (fun x y hx hd => ?_)).2
    obtain ⟨x1, x2⟩ : x < nt ∧ up s' a x := hx
    have := dir_lt hw x1 hd
    exact ⟨by omega, up_dir x2 ((dir_frame hf (by omega)).mpr hd)⟩
theorem WFT_frame (hw : WFT s nt) (hf : FT s s') : WFT s' nt := by
  have h8 := hw.1
  refine ⟨hw.1, (hf 0 (by decide)).trans hw.2.1, fun t ht => ?_⟩
  obtain ⟨w1, w2, w3⟩ := hw.2.2 t ht
  rw [hf (1 + 3 * t) (by omega), hf (1 + 3 * t + 1) (by omega), hf (1 + 3 * t + 2) (by omega)]
  refine ⟨w1, ?_, fun k hk => ?_⟩
  · rcases w2 with w2 | ⟨p, hp, q1, q2, q3⟩
    · exact Or.inl w2
    · refine Or.inr ⟨p, hp, q1, q2, ?_⟩
      rw [hf (1 + 3 * p) (by omega)]
      exact q3
  · have := w3 k hk
    rw [hf (1 + 3 * k) (by omega)]
    exact this
theorem CT_frame {t_count t_ifs : Int32} {t_sup : Nat → Int32} (hw : WFT s nt) (hf : FT s s') (hc : CT s nt t_count t_ifs t_sup) : CT s' nt t_count t_ifs t_sup := by
  have h8 := hw.1
  refine ⟨hc.1, fun t ht k => (hc.2.1 t ht k).trans (up_frame hw hf ht).symm, fun k => ?_⟩
  rw [hc.2.2 k]
  constructor
  · rintro ⟨h1, h2⟩
    exact ⟨h1, by rw [hf (1 + 3 * k) (by omega)]; exact h2⟩
  · rintro ⟨h1, h2⟩
    exact ⟨h1, by rw [hf (1 + 3 * k) (by omega)] at h2; exact h2⟩
theorem rM_frame (hf : FM s s') {m w : Nat} (hm : m < 16) (hw : w < 13) : rM s' m w = rM s m w := hf _ (by omega) (by omega)
theorem rC_frame (hf : FC s s') {c w : Nat} (hc : c < 8) (hw : w < 29) : rC s' c w = rC s c w := hf _ (by omega) (by omega)
theorem WFM_frame (hm : WFM s nt nm) (hf : FM s s') : WFM s' nt nm := by
  have h16 := hm.1
  refine ⟨hm.1, (hf 25 (by decide) (by decide)).trans hm.2.1, fun m hmm => ?_⟩
  obtain ⟨w1, w2, w3, w4, w5, w6⟩ := hm.2.2 m hmm
  have eT : nT s' m = nT s m := by unfold nT; rw [rM_frame hf (by omega) (by decide)]
  have eA : nA s' m = nA s m := by unfold nA; rw [rM_frame hf (by omega) (by decide)]
  have eK : ∀ i, i < nA s m → nK s' m i = nK s m i := fun i hi => by unfold nK; rw [rM_frame hf (by omega) (by omega)]
  rw [rM_frame hf (by omega) (by decide), rM_frame hf (by omega) (by decide), eT, eA]
  refine ⟨w1, w2, w3, w4, fun i hi => ?_, fun i j hij hj => ?_⟩
  · rw [rM_frame hf (by omega) (by omega), eK i hi]
    exact w5 i hi
  · rw [eK i (by omega), eK j hj]
    exact w6 i j hij hj
theorem CMt_frame {m_count : Int32} {m_type m_name m_arity m_keys m_defs : Nat → Int32} (hm : WFM s nt nm) (hf : FM s s') (hc : CMt s nm m_count m_type m_name m_arity m_keys m_defs) : CMt s' nm m_count m_type m_name m_arity m_keys m_defs := by
  have h16 := hm.1
  refine ⟨hc.1, fun m hmm => ?_⟩
  obtain ⟨w1, w2, w3, w4, w5, w6⟩ := hm.2.2 m hmm
  obtain ⟨c1, c2, c3, c4⟩ := hc.2 m hmm
  have eA : nA s' m = nA s m := by unfold nA; rw [rM_frame hf (by omega) (by decide)]
  rw [rM_frame hf (by omega) (by decide), rM_frame hf (by omega) (by decide), rM_frame hf (by omega) (by decide), eA]
  refine ⟨c1, c2, c3, fun i hi => ?_⟩
  rw [rM_frame hf (by omega) (by omega), rM_frame hf (by omega) (by omega)]
  exact c4 i hi
/-- a call keeps its properties, if its cells, its dynamic type's and its target's arity stay -/
theorem WFC1_frame {nt' nm' c : Nat} (W : WFC1 s nt nm c) (hf : ∀ w, w < 29 → rC s' c w = rC s c w) (hnt : nt ≤ nt') (hnm : nm ≤ nm') (hd : s' (1 + 3 * cD s c) = s (1 + 3 * cD s c)) (ha : rC s c 3 = 0 → nA s' (cG s c) = nA s (cG s c)) (hu : up s (cS s c) (nT s (cG s c)) → up s' (cS s c) (nT s' (cG s c))) : WFC1 s' nt' nm' c := by
  have e0 : cS s' c = cS s c := by unfold cS; rw [hf 0 (by decide)]
  have e1 : cD s' c = cD s c := by unfold cD; rw [hf 1 (by decide)]
  have e2 : cG s' c = cG s c := by unfold cG; rw [hf 2 (by decide)]
  have e4 : cA s' c = cA s c := by unfold cA; rw [hf 4 (by decide)]
  have e20 : cN s' c = cN s c := by unfold cN; rw [hf 20 (by decide)]
  have a5 := W.ar'
  have a8 := W.tn'
  unfold WFC1
  rw [e0, e1, e2, e4, e20, hf 0 (by decide), hf 1 (by decide), hf 2 (by decide), hf 3 (by decide), hf 4 (by decide), hf 20 (by decide), hd]
  refine ⟨W.st, Nat.lt_of_lt_of_le W.st' hnt, W.dy, Nat.lt_of_lt_of_le W.dy' hnt, W.dc, W.tg, Nat.lt_of_lt_of_le W.tg' hnm, W.fr, W.ar, W.ar', W.tn, W.tn', fun i hi => ?_, fun j hj => ?_, fun i j hij hj => ?_, fun h => ?_, hu W.ts⟩
  · rw [hf (5 + i) (by omega), hf (10 + i) (by omega)]
    exact W.kd i hi
  · rw [hf (21 + j) (by omega)]
    exact W.tk j hj
  · rw [hf (15 + i) (by omega), hf (15 + j) (by omega)]
    exact W.ky i j hij hj
  · rw [ha h]
    exact W.ut h
theorem CK1_frame {c : Nat} {k_st k_dy k_tg k_ac k_tc k_keys k_kinds k_vals k_tk : Nat → Int32} (W : WFC1 s nt nm c) (K : CK1 s c k_st k_dy k_tg k_ac k_tc k_keys k_kinds k_vals k_tk) (hf : ∀ w, w < 29 → rC s' c w = rC s c w) : CK1 s' c k_st k_dy k_tg k_ac k_tc k_keys k_kinds k_vals k_tk := by
  have e4 : cA s' c = cA s c := by unfold cA; rw [hf 4 (by decide)]
  have e20 : cN s' c = cN s c := by unfold cN; rw [hf 20 (by decide)]
  have a5 := W.ar'
  have a8 := W.tn'
  unfold CK1
  rw [e4, e20, hf 0 (by decide), hf 1 (by decide), hf 2 (by decide), hf 4 (by decide), hf 20 (by decide)]
  refine ⟨K.st, K.dy, K.tg, K.ac, K.tc, fun i hi => ?_, fun i hi => ?_, fun i hi => ?_, fun j hj => ?_⟩
  · rw [hf (15 + i) (by omega)]; exact K.ky i hi
  · rw [hf (5 + i) (by omega)]; exact K.kd i hi
  · rw [hf (10 + i) (by omega)]; exact K.vl i hi
  · rw [hf (21 + j) (by omega)]; exact K.tk j hj
end Z1
