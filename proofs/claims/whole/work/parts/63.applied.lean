/-! the state after applyChange -/
section AP
variable {s u : Nat → Int32} {nt nm nc m n e : Nat} {t_count t_ifs : Int32} {t_sup : Nat → Int32} {m_count : Int32} {m_type m_name m_arity m_keys m_defs : Nat → Int32} {k_count k_fs : Int32} {k_st k_dy k_tg k_ac k_tc k_keys k_kinds k_vals k_tk k_nk k_nv : Nat → Int32} {kp ek ed d_src d_keys d_defs : Nat → Int32} {hb : Nat → Nat}
def rwc (s : Nat → Int32) (nt nm m c : Nat) : Prop := ¬ rC s c 3 = 1 ∧ cnc s nt nm m c
def AS (s u : Nat → Int32) (nt nm nc m n e : Nat) (hb : Nat → Nat) (kp ek ed : Nat → Int32) : Prop := (∀ j, j < 26 → u j = s j) ∧ (∀ o, o < nm → rM u o 0 = rM s o 0 ∧ rM u o 1 = rM s o 1) ∧ (∀ o, o < nm → fam s nt nm m o → MR u o e ek ed) ∧ (∀ o, o < nm → ¬ fam s nt nm m o → ∀ w, w < 13 → rM u o w = rM s o w) ∧ u 234 = s 234 ∧ (∀ c, c < nc → rwc s nt nm m c → RW s u c n (hb c) e kp ek ed) ∧ ∀ c, c < nc → ¬ rwc s nt nm m c → ∀ w, w < 29 → rC u c w = rC s c w
theorem as_nT (A : AS s u nt nm nc m n e hb kp ek ed) {o : Nat} (ho : o < nm) : nT u o = nT s o := by
  unfold nT
  rw [(A.2.1 o ho).1]
theorem as_nA (A : AS s u nt nm nc m n e hb kp ek ed) (he : e ≤ 5) {o : Nat} (ho : o < nm) (hf : fam s nt nm m o) : nA u o = e := by
  unfold nA
  rw [(A.2.2.1 o ho hf).1, Nn_nI (by omega)]
theorem as_WFM (hm : WFM s nt nm) (he : e ≤ 5) (hE : ∀ i, i < e → ek i = nI (Nn (ek i)) ∧ Nn (ek i) < 10) (hD : ∀ i j, i < j → j < e → ek i ≠ ek j) (A : AS s u nt nm nc m n e hb kp ek ed) : WFM u nt nm := by
  have h16 := hm.1
  refine ⟨hm.1, (A.1 25 (by decide)).trans hm.2.1, fun o ho => ?_⟩
  obtain ⟨w1, w2, w3, w4, w5, w6⟩ := hm.2.2 o ho
  rw [as_nT A ho, (A.2.1 o ho).1]
  by_cases g : fam s nt nm m o
  · obtain ⟨q1, q2⟩ := A.2.2.1 o ho g
    have hA := as_nA A he ho g
    have eK : ∀ i, i < e → nK u o i = Nn (ek i) := fun i hi => by unfold nK; rw [(q2 i hi).1]
    rw [hA]
    refine ⟨w1, w2, q1, he, fun i hi => ?_, fun i j hij hj => ?_⟩
    · rw [(q2 i hi).1, eK i hi]
      exact hE i hi
    · rw [eK i (by omega), eK j hj]
      intro q
      apply hD i j hij hj
      rw [(hE i (by omega)).1, (hE j hj).1, q]
  · have f := A.2.2.2.1 o ho g
    have eA : nA u o = nA s o := by unfold nA; rw [f 2 (by decide)]
    have eK : ∀ i, i < nA s o → nK u o i = nK s o i := fun i hi => by unfold nK; rw [f (3 + i) (by omega)]
    rw [eA, f 2 (by decide)]
    refine ⟨w1, w2, w3, w4, fun i hi => ?_, fun i j hij hj => ?_⟩
    · rw [f (3 + i) (by omega), eK i hi]
      exact w5 i hi
    · rw [eK i (by omega), eK j hj]
      exact w6 i j hij hj
theorem as_CMt (hm : WFM s nt nm) (cm : CMt s nm m_count m_type m_name m_arity m_keys m_defs) (he : e ≤ 5) (A : AS s u nt nm nc m n e hb kp ek ed) {ar ky df : Nat → Int32} (h1 : ∀ o, o < nm → fam s nt nm m o → ar o = nI e ∧ ∀ x, x < e → ky (o * 5 + x) = ek x ∧ df (o * 5 + x) = ed x) (h2 : ∀ o, o < nm → ¬ fam s nt nm m o → ar o = m_arity o ∧ ∀ x, x < 5 → ky (o * 5 + x) = m_keys (o * 5 + x) ∧ df (o * 5 + x) = m_defs (o * 5 + x)) : CMt u nm m_count m_type m_name ar ky df := by
  refine ⟨cm.1, fun o ho => ?_⟩
  obtain ⟨c1, c2, c3, c4⟩ := cm.2 o ho
  obtain ⟨w1, w2, w3, w4, w5, w6⟩ := hm.2.2 o ho
  rw [(A.2.1 o ho).1, (A.2.1 o ho).2]
  by_cases g : fam s nt nm m o
  · obtain ⟨q1, q2⟩ := A.2.2.1 o ho g
    rw [as_nA A he ho g]
    obtain ⟨p1, p2⟩ := h1 o ho g
    refine ⟨c1, c2, by rw [p1, q1], fun i hi => ?_⟩
    rw [(p2 i hi).1, (p2 i hi).2, (q2 i hi).1, (q2 i hi).2]
    exact ⟨rfl, rfl⟩
  · have f := A.2.2.2.1 o ho g
    have eA : nA u o = nA s o := by unfold nA; rw [f 2 (by decide)]
    obtain ⟨p1, p2⟩ := h2 o ho g
    rw [eA]
    refine ⟨c1, c2, by rw [p1, f 2 (by decide)]; exact c3, fun i hi => ?_⟩
    rw [(p2 i (by omega)).1, (p2 i (by omega)).2, f (3 + i) (by omega), f (8 + i) (by omega)]
    exact c4 i hi
theorem as_WFC (hw : WFT s nt) (hm : WFM s nt nm) (hk : WFC s nt nm nc) (he : e ≤ 5) (hn : n ≤ 5) (hD : ∀ i j, i < j → j < e → ek i ≠ ek j) (hkp : ∀ x, x < e → kp x = -9 ∨ ∃ j, j < n ∧ kp x = nI j) (HB : ∀ c, c < nc → rwc s nt nm m c → cN s c + cnt (nI (hb c)) n ≤ 8 ∧ cA s c = n ∧ ∀ i, i < n → tb (nI (hb c)) i = true → cn (rC s c (5 + i))) (A : AS s u nt nm nc m n e hb kp ek ed) : WFC u nt nm nc := by
  have n8 := hw.1
  have ft : FT s u := fun j hj => A.1 j (by omega)
  refine ⟨hk.1, A.2.2.2.2.1.trans hk.2.1, fun c hc => ?_⟩
  have W := hk.2.2 c hc
  have d' := W.dy'
  have t' := W.tg'
  have hU : up s (cS s c) (nT s (cG s c)) → up u (cS s c) (nT u (cG s c)) := fun h => by
    rw [as_nT A t']
    exact (up_frame hw ft W.st').mpr h
  by_cases g : rwc s nt nm m c
  · obtain ⟨r1, r2, r3, r4, r5, r6⟩ := A.2.2.2.2.2.1 c hc g
    obtain ⟨b1, b2, b3⟩ := HB c hc g
    have e0 : cS u c = cS s c := by unfold cS; rw [r1 0 (by decide)]
    have e1 : cD u c = cD s c := by unfold cD; rw [r1 1 (by decide)]
    have e2 : cG u c = cG s c := by unfold cG; rw [r1 2 (by decide)]
    have e4 : cA u c = e := by unfold cA; rw [r2, Nn_nI (by omega)]
    have e20 : cN u c = cN s c + cnt (nI (hb c)) n := by unfold cN; rw [r3, Nn_nI (by omega)]; rfl
    unfold WFC1
    rw [e0, e1, e2, e4, e20, r1 0 (by decide), r1 1 (by decide), r1 2 (by decide), r1 3 (by decide), r2, r3, ft (1 + 3 * cD s c) (by omega)]
    refine ⟨W.st, W.st', W.dy, W.dy', W.dc, W.tg, W.tg', W.fr, rfl, he, rfl, b1, fun x hx => ?_, fun j hj => ?_, fun i j hij hj => ?_, fun _ => (as_nA A he t' g.2).symm, hU W.ts⟩
    · obtain ⟨q1, q2, q3⟩ := r4 x hx
      rw [q1, q2]
      unfold fkd fvl
      rcases hkp x hx with z | ⟨j, hj, z⟩
      · rw [if_pos z]
        exact Or.inl rfl
      · have hne : ¬ kp x = -9 := by rw [z]; exact nI_ne9 (by omega)
        rw [if_neg hne, if_neg hne, z, Nn_nI (by omega)]
        unfold hkd hvl
        by_cases ht : tb (nI (hb c)) j = true
        · rw [if_pos ht, if_pos ht]
          have m2 := cnt_mono (nI (hb c)) (i := j + 1) (n := n) hj
          rw [cnt_s ht] at m2
          exact Or.inr (Or.inr (Or.inr ⟨rfl, cN s c + cnt (nI (hb c)) j, by omega, rfl⟩))
        · rw [if_neg ht, if_neg ht]
          rcases W.kd j (by omega) with k | k | k | ⟨k, t, k2, k3⟩
          · exact Or.inl k
          · exact Or.inr (Or.inl k)
          · exact Or.inr (Or.inr (Or.inl k))
          · exact Or.inr (Or.inr (Or.inr ⟨k, t, by omega, k3⟩))
    · by_cases z : j < cN s c
      · rw [r5 j z]
        exact W.tk j z
      · obtain ⟨i, h1, h2, h3⟩ := cnt_hit (nI (hb c)) n (j - cN s c) (by omega)
        have ej : j = cN s c + cnt (nI (hb c)) i := by omega
        rw [ej, r6 i h1 h2]
        exact b3 i h1 h2
    · rw [(r4 i (by omega)).2.2, (r4 j hj).2.2]
      exact hD i j hij hj
  · refine WFC1_frame W (A.2.2.2.2.2.2 c hc g) (Nat.le_refl _) (Nat.le_refl _) (ft _ (by omega)) (fun h3 => ?_) hU
    have nf : ¬ fam s nt nm m (cG s c) := fun q => g ⟨by rw [h3]; decide, q⟩
    unfold nA
    rw [A.2.2.2.1 _ t' nf 2 (by decide)]
theorem as_CK (hk : WFC s nt nm nc) (ck : CK s nc k_count k_fs k_st k_dy k_tg k_ac k_tc k_keys k_kinds k_vals k_tk) (he : e ≤ 5) (HB : ∀ c, c < nc → rwc s nt nm m c → cN s c + cnt (nI (hb c)) n ≤ 8 ∧ cA s c = n ∧ ∀ i, i < n → tb (nI (hb c)) i = true → cn (rC s c (5 + i))) (A : AS s u nt nm nc m n e hb kp ek ed) {ac tc ky K V T : Nat → Int32} (h1 : ∀ c, c < nc → rwc s nt nm m c → CWr s c n (hb c) e kp ek ed k_tk ac tc ky K V T) (h2 : ∀ c, c < nc → ¬ rwc s nt nm m c → CUr c k_ac k_tc k_keys k_kinds k_vals k_tk ac tc ky K V T) : CK u nc k_count k_fs k_st k_dy k_tg ac tc ky K V T := by
  have f3 : ∀ c, c < nc → ∀ w, w < 4 → rC u c w = rC s c w := fun c hc w hw => by
    by_cases g : rwc s nt nm m c
    · exact (A.2.2.2.2.2.1 c hc g).1 w hw
    · exact A.2.2.2.2.2.2 c hc g w (by omega)
  refine ⟨ck.n, fun k => ?_, fun c hc => ?_⟩
  · rw [ck.fs k]
    constructor
    · rintro ⟨q1, q2⟩
      exact ⟨q1, by rw [f3 k q1 3 (by decide)]; exact q2⟩
    · rintro ⟨q1, q2⟩
      exact ⟨q1, by rw [f3 k q1 3 (by decide)] at q2; exact q2⟩
  · have W := hk.2.2 c hc
    have Kc := ck.c c hc
    have w5 := W.ar'
    have w8 := W.tn'
    by_cases g : rwc s nt nm m c
    · obtain ⟨r1, r2, r3, r4, r5, r6⟩ := A.2.2.2.2.2.1 c hc g
      obtain ⟨b1, b2, b3⟩ := HB c hc g
      obtain ⟨q1, q2, q3, q4, q5⟩ := h1 c hc g
      have e4 : cA u c = e := by unfold cA; rw [r2, Nn_nI (by omega)]
      have e20 : cN u c = cN s c + cnt (nI (hb c)) n := by unfold cN; rw [r3, Nn_nI (by omega)]; rfl
      unfold CK1
      rw [e4, e20, r1 0 (by decide), r1 1 (by decide), r1 2 (by decide), r2, r3]
      refine ⟨Kc.st, Kc.dy, Kc.tg, q1, q2, fun i hi => ?_, fun i hi => ?_, fun i hi => ?_, fun j hj => ?_⟩
      · rw [(q3 i hi).1, (r4 i hi).2.2]
      · rw [(q3 i hi).2.1, (r4 i hi).1]
      · rw [(q3 i hi).2.2, (r4 i hi).2.1]
      · by_cases z : j < cN s c
        · rw [q4 j z, r5 j z]
          exact Kc.tk j z
        · obtain ⟨i, k1, k2, k3⟩ := cnt_hit (nI (hb c)) n (j - cN s c) (by omega)
          have ej : j = cN s c + cnt (nI (hb c)) i := by omega
          rw [ej, q5 i k1 k2, r6 i k1 k2]
    · obtain ⟨q1, q2, q3, q4⟩ := h2 c hc g
      have f := A.2.2.2.2.2.2 c hc g
      have K2 := CK1_frame (s' := u) W Kc f
      have e4 : cA u c = cA s c := by unfold cA; rw [f 4 (by decide)]
      have e20 : cN u c = cN s c := by unfold cN; rw [f 20 (by decide)]
      unfold CK1 at K2 ⊢
      rw [e4, e20] at K2 ⊢
      obtain ⟨k1, k2, k3, k4, k5, k6, k7, k8, k9⟩ := K2
      exact ⟨k1, k2, k3, q1.trans k4, q2.trans k5, fun i hi => by rw [(q3 i (by omega)).1]; exact k6 i hi, fun i hi => by rw [(q3 i (by omega)).2.1]; exact k7 i hi, fun i hi => by rw [(q3 i (by omega)).2.2]; exact k8 i hi, fun j hj => by rw [q4 j (by omega)]; exact k9 j hj⟩
end AP
