/-! the class's types and its model -/
theorem and_eq0 {x y : Int32} : (x &&& y) = 0 ↔ ∀ k, ¬ (tb x k = true ∧ tb y k = true) := by
  rw [tb_eq0]
  constructor
  · rintro h k ⟨h1, h2⟩
    rcases Nat.lt_or_ge k 32 with g | g
    · have := h k g
      rw [tb_and, h1, h2] at this
      cases this
    · rw [tb_big g] at h1
      cases h1
  · intro h k _
    rw [tb_and]
    cases h1 : tb x k <;> cases h2 : tb y k <;> first | rfl | exact absurd ⟨h1, h2⟩ (h k)
theorem tb_andn (x y : Int32) (k : Nat) : tb (x &&& (y ^^^ (-1))) k = true ↔ tb x k = true ∧ ¬ tb y k = true := by
  rw [tb_and, Bool.and_eq_true]
  rcases Nat.lt_or_ge k 32 with g | g
  · rw [tb_not y g]
    cases tb y k <;> simp
  · rw [tb_big (x := x) g]
    simp
theorem tb_andt (x y : Int32) (k : Nat) : tb (x &&& y) k = true ↔ tb x k = true ∧ tb y k = true := by
  rw [tb_and, Bool.and_eq_true]
theorem tb_ort (x y : Int32) (k : Nat) : tb (x ||| y) k = true ↔ tb x k = true ∨ tb y k = true := by
  rw [tb_or, Bool.or_eq_true]
theorem tb_bitt {k : Nat} (hk : k < 32) (j : Nat) : tb (1 <<< (nI k &&& 31)) j = true ↔ j = k := by
  rw [tb_bit hk, decide_eq_true_iff]
theorem nz_iff {x : Int32} : x = 0 ↔ ∀ k, ¬ tb x k = true := by
  rw [tb_eq0]
  constructor
  · intro h k hk
    rcases Nat.lt_or_ge k 32 with g | g
    · rw [h k g] at hk; cases hk
    · rw [tb_big g] at hk; cases hk
  · intro h k _
    exact Bool.eq_false_iff.mpr (h k)
theorem andn_eq0 {x y : Int32} : (x &&& (y ^^^ (-1))) = 0 ↔ ∀ k, tb x k = true → tb y k = true := by
  rw [nz_iff]
  exact ⟨fun h k hk => Classical.byContradiction (fun q => h k ((tb_andn x y k).mpr ⟨hk, q⟩)), fun h k q => ((tb_andn x y k).mp q).2 (h k ((tb_andn x y k).mp q).1)⟩
theorem eq_bits {x y : Int32} (h : ∀ k, tb x k = true ↔ tb y k = true) : x = y := tb_ext (fun k _ => by
  have := h k
  cases h1 : tb x k <;> cases h2 : tb y k <;> simp_all)
theorem bits_from {g : Nat → Int32 → Int32 → Option Int32} {N : Nat} {P : Nat → Nat → Prop} (hs : ∀ n i acc, i < N → ∃ acc', g (n + 1) acc (nI i) = g n acc' (nI i + 1) ∧ ∀ k, tb acc' k = true ↔ tb acc k = true ∨ P i k) (he : ∀ n acc, g (n + 1) acc (nI N) = some acc) (hN : N < 5000) (y : Int32) : ∃ x, g 5000 y 0 = some x ∧ ∀ k, tb x k = true ↔ tb y k = true ∨ ∃ i', i' < N ∧ P i' k := by
  have key : ∀ n i acc, i ≤ N → N - i < n → (∀ k, tb acc k = true ↔ tb y k = true ∨ ∃ i', i' < i ∧ P i' k) → ∃ x, g n acc (nI i) = some x ∧ ∀ k, tb x k = true ↔ tb y k = true ∨ ∃ i', i' < N ∧ P i' k := by
    intro n
    induction n with
    | zero => intro i acc _ h; omega
    | succ n ih =>
      intro i acc hi hn ha
      by_cases hlt : i < N
      · obtain ⟨acc', h1, h2⟩ := hs n i acc hlt
        rw [h1, nI_1]
        refine ih (i + 1) acc' hlt (by omega) (fun k => ?_)
        rw [h2 k, ha k, ex_succ, or_assoc]
      · have : i = N := by omega
        subst this
        exact ⟨acc, he n acc, ha⟩
  exact key 5000 0 y (Nat.zero_le _) hN (fun k => ⟨Or.inl, fun h => h.elim id (fun q => absurd q ex_zero)⟩)
section O1
variable {s : Nat → Int32} {nt nm : Nat} {t_count t_ifs : Int32} {t_sup : Nat → Int32} {m_count : Int32} {m_type m_name m_arity m_keys m_defs : Nat → Int32}
theorem e_isClass (hw : WFT s nt) (hc : CT s nt t_count t_ifs t_sup) (x : Int32) : ∃ r, fX7_isClass t_count t_ifs x = some r ∧ isb r (∃ t, t < nt ∧ x = nI t ∧ s (1 + 3 * t) = 0) := by
  have h8 := hw.1
  unfold fX7_isClass
  obtain ⟨r, hr, hb⟩ := e_texists hw hc x
  rw [hr, bn_s]
  by_cases g : ∃ t, t < nt ∧ x = nI t
  · rw [if_neg (fun q => (isb_0 hb).mp q g)]
    obtain ⟨t, ht, rfl⟩ := g
    obtain ⟨r2, hr2, hb2⟩ := e_contains t_ifs (k := t) (by omega)
    rw [hr2, bn_s]
    by_cases g2 : s (1 + 3 * t) = 1
    · rw [if_neg (fun q => (isb_0 hb2).mp q ((hc.2.2 t).mpr ⟨ht, g2⟩))]
      exact ⟨0, rfl, isb_f (fun ⟨u, hu, e, z⟩ => by
        have : t = u := nI_inj (by omega) (by omega) e
        subst this
        rw [g2] at z
        exact absurd z (by decide))⟩
    · rw [if_pos ((isb_0 hb2).mpr (fun q => g2 ((hc.2.2 t).mp q).2))]
      exact ⟨1, rfl, isb_t ⟨t, ht, rfl, ((hw.2.2 t ht).1).resolve_right g2⟩⟩
  · rw [if_pos ((isb_0 hb).mpr g)]
    exact ⟨0, rfl, isb_f (fun ⟨u, hu, e, _⟩ => g ⟨u, hu, e⟩)⟩
theorem e_areInterfaces (hc : CT s nt t_count t_ifs t_sup) (x : Int32) : ∃ r, fX7_areInterfaces t_ifs x = some r ∧ isb r (∀ k, tb x k = true → k < nt ∧ s (1 + 3 * k) = 1) := by
  unfold fX7_areInterfaces
  by_cases g : (x &&& (t_ifs ^^^ (-1))) = 0
  · rw [if_pos g]
    exact ⟨1, rfl, isb_t (fun k hk => (hc.2.2 k).mp (andn_eq0.mp g k hk))⟩
  · rw [if_neg g]
    exact ⟨0, rfl, isb_f (fun h => g (andn_eq0.mpr (fun k hk => (hc.2.2 k).mpr (h k hk))))⟩
theorem e_allowsSuperclass (hw : WFT s nt) (hc : CT s nt t_count t_ifs t_sup) (i x : Int32) : ∃ r, fX7_allowsSuperclass t_count t_ifs i x = some r ∧ isb r ((x = -1 ∧ (i = 0 ∨ i = 1)) ∨ (x ≠ -1 ∧ i = 0 ∧ ∃ t, t < nt ∧ x = nI t ∧ s (1 + 3 * t) = 0)) := by
  unfold fX7_allowsSuperclass
  by_cases g : x = -1
  · rw [if_pos g]
    by_cases g1 : i = 0
    · rw [if_pos g1]
      exact ⟨1, rfl, isb_t (Or.inl ⟨g, Or.inl g1⟩)⟩
    · rw [if_neg g1]
      by_cases g2 : i = 1
      · rw [if_pos g2]
        exact ⟨1, rfl, isb_t (Or.inl ⟨g, Or.inr g2⟩)⟩
      · rw [if_neg g2]
        exact ⟨0, rfl, isb_f (fun q => q.elim (fun z => z.2.elim g1 g2) (fun z => z.1 g))⟩
  · rw [if_neg g]
    by_cases g1 : i = 0
    · rw [if_pos g1]
      obtain ⟨r, hr, hb⟩ := e_isClass hw hc x
      rw [hr, bn_s]
      by_cases g2 : ∃ t, t < nt ∧ x = nI t ∧ s (1 + 3 * t) = 0
      · rw [if_neg (fun q => (isb_0 hb).mp q g2)]
        exact ⟨1, rfl, isb_t (Or.inr ⟨g, g1, g2⟩)⟩
      · rw [if_pos ((isb_0 hb).mpr g2)]
        exact ⟨0, rfl, isb_f (fun q => q.elim (fun z => g z.1) (fun z => g2 z.2.2))⟩
    · rw [if_neg g1]
      exact ⟨0, rfl, isb_f (fun q => q.elim (fun z => g z.1) (fun z => g1 z.2.1))⟩
theorem inh_from (hw : WFT s nt) (hc : CT s nt t_count t_ifs t_sup) (ifs y : Int32) : ∃ x, jX7_inheritedFrom_15 t_count t_sup ifs y = some x ∧ ∀ k, tb x k = true ↔ tb y k = true ∨ ∃ i, i < nt ∧ (tb ifs i = true ∧ up s i k) := by
  have h8 := hw.1
  unfold jX7_inheritedFrom_15
  refine bits_from (g := fun n' acc i => lX7_inheritedFrom_19 t_count t_sup n' ifs acc i) (N := nt) (P := fun i k => tb ifs i = true ∧ up s i k) (fun n' i acc hi => ?_) (fun n' acc => ?_) (by omega) y
  · show ∃ acc', lX7_inheritedFrom_19 t_count t_sup (n' + 1) ifs acc (nI i) = lX7_inheritedFrom_19 t_count t_sup n' ifs acc' (nI i + 1) ∧ _
    rw [lX7_inheritedFrom_19_s, hc.1, if_neg (up_i (by omega) hi)]
    obtain ⟨r, hr, hb⟩ := e_contains ifs (k := i) (by omega)
    rw [hr, bn_s]
    by_cases g : tb ifs i = true
    · rw [if_neg (fun q => (isb_0 hb).mp q g), rd_nI (by omega) (by decide)]
      refine ⟨_, rfl, fun k => ?_⟩
      rw [tb_ort, hc.2.1 i hi k]
      exact ⟨fun h => h.elim Or.inl (fun e => Or.inr ⟨g, e⟩), fun h => h.elim Or.inl (fun e => Or.inr e.2)⟩
    · rw [if_pos ((isb_0 hb).mpr g)]
      exact ⟨acc, rfl, fun k => ⟨Or.inl, fun h => h.elim id (fun e => absurd e.1 g)⟩⟩
  · show lX7_inheritedFrom_19 t_count t_sup (n' + 1) ifs acc (nI nt) = some acc
    rw [lX7_inheritedFrom_19_s, hc.1, if_pos (up_N (by omega))]
theorem e_inheritedFrom0 (hw : WFT s nt) (hc : CT s nt t_count t_ifs t_sup) (ifs : Int32) : ∃ x, fX7_inheritedFrom t_count t_sup (-1) ifs = some x ∧ ∀ k, tb x k = true ↔ ∃ i, i < nt ∧ (tb ifs i = true ∧ up s i k) := by
  unfold fX7_inheritedFrom
  rw [if_pos rfl]
  obtain ⟨x, hx, hb⟩ := inh_from hw hc ifs 0
  refine ⟨x, hx, fun k => ?_⟩
  rw [hb k, tb_zero]
  exact ⟨fun h => h.elim (fun q => by cases q) id, Or.inr⟩
theorem e_inheritedFrom1 (hw : WFT s nt) (hc : CT s nt t_count t_ifs t_sup) {p : Nat} (hp : p < nt) (ifs : Int32) : ∃ x, fX7_inheritedFrom t_count t_sup (nI p) ifs = some x ∧ ∀ k, tb x k = true ↔ up s p k ∨ ∃ i, i < nt ∧ (tb ifs i = true ∧ up s i k) := by
  have h8 := hw.1
  unfold fX7_inheritedFrom
  rw [if_neg (fun q => nI_pos (n := p) (by omega) (by rw [q]; decide)), rd_nI (by omega) (by decide)]
  obtain ⟨x, hx, hb⟩ := inh_from hw hc ifs (t_sup p)
  refine ⟨x, hx, fun k => ?_⟩
  rw [hb k, hc.2.1 p hp k]
theorem e_connectedWith (hw : WFT s nt) (hc : CT s nt t_count t_ifs t_sup) (set : Int32) : ∃ x, fX7_connectedWith t_count t_sup set = some x ∧ ∀ k, tb x k = true ↔ ∃ j, tb set j = true ∧ conn s nt j k := by
  have h8 := hw.1
  unfold fX7_connectedWith
  obtain ⟨x, hx, hb⟩ := bits0 (g := fun n' acc i => lX7_connectedWith_4 t_count t_sup n' set acc i) (N := nt) (P := fun t k => (∃ j, tb set j = true ∧ up s t j) ∧ up s t k) (fun n' i acc hi => by
    show ∃ acc', lX7_connectedWith_4 t_count t_sup (n' + 1) set acc (nI i) = lX7_connectedWith_4 t_count t_sup n' set acc' (nI i + 1) ∧ _
    rw [lX7_connectedWith_4_s, hc.1, if_neg (up_i (by omega) hi), rd_nI (by omega) (by decide)]
    by_cases g : (t_sup i &&& set) = 0
    · rw [if_pos g]
      refine ⟨acc, rfl, fun k => ⟨Or.inl, fun h => h.elim id (fun ⟨⟨j, h1, h2⟩, _⟩ => absurd ⟨(hc.2.1 i hi j).mpr h2, h1⟩ (and_eq0.mp g j))⟩⟩
    · rw [if_neg g, rd_nI (by omega) (by decide)]
      refine ⟨_, rfl, fun k => ?_⟩
      rw [tb_ort, hc.2.1 i hi k]
      refine ⟨fun h => h.elim Or.inl (fun e => Or.inr ⟨?_, e⟩), fun h => h.elim Or.inl (fun e => Or.inr e.2)⟩
      refine Classical.byContradiction (fun hn => g (and_eq0.mpr (fun j hj => hn ⟨j, hj.2, (hc.2.1 i hi j).mp hj.1⟩)))) (fun n' acc => by
    show lX7_connectedWith_4 t_count t_sup (n' + 1) set acc (nI nt) = some acc
    rw [lX7_connectedWith_4_s, hc.1, if_pos (up_N (by omega))]) (by omega)
  refine ⟨x, hx, fun k => ?_⟩
  rw [hb k]
  constructor
  · rintro ⟨t, ht, ⟨j, h1, h2⟩, h3⟩
    exact ⟨j, h1, t, ht, h2, h3⟩
  · rintro ⟨j, h1, t, ht, h2, h3⟩
    exact ⟨t, ht, ⟨j, h1, h2⟩, h3⟩
theorem e_targetFor (hw : WFT s nt) (hm : WFM s nt nm) (hc : CT s nt t_count t_ifs t_sup) (hd : CMt s nm m_count m_type m_name m_arity m_keys m_defs) {st : Nat} (hst : st < nt) (n a : Int32) : ∃ r, fX6_targetFor t_sup m_count m_type m_name m_arity (nI st) n a = some r ∧ lst (fun m => sg s m n a ∧ up s st (nT s m)) nm r := by
  have h8 := hw.1
  unfold fX6_targetFor
  rw [rd_nI (by omega) (by decide)]
  obtain ⟨x, hx, hxb⟩ := e_withSignature hw hm hd n a (t_sup st)
  rw [hx, bn_s]
  obtain ⟨r, hr, hl⟩ := e_smallest hm hd x
  rw [hr, bn_s]
  refine ⟨r, rfl, lst_iff (fun m hmm => ?_) hl⟩
  rw [hxb m, ex_self (P := fun m => sg s m n a ∧ tb (t_sup st) (nT s m) = true), hc.2.1 st hst]
  exact ⟨fun h => h.2, fun h => ⟨hmm, h⟩⟩
end O1
