/-! the class's methods -/
def CMt (s : Nat → Int32) (nm : Nat) (m_count : Int32) (m_type m_name m_arity m_keys m_defs : Nat → Int32) : Prop := m_count = nI nm ∧ ∀ m, m < nm → m_type m = rM s m 0 ∧ m_name m = rM s m 1 ∧ m_arity m = rM s m 2 ∧ ∀ i, i < nA s m → m_keys (m * 5 + i) = rM s m (3 + i) ∧ m_defs (m * 5 + i) = rM s m (8 + i)
section M2
variable {s : Nat → Int32} {nt nm : Nat} {m_count : Int32} {m_type m_name m_arity m_keys m_defs : Nat → Int32}
theorem e_mexists (hm : WFM s nt nm) (hc : CMt s nm m_count m_type m_name m_arity m_keys m_defs) (x : Int32) : ∃ r, fX5_exists m_count x = some r ∧ isb r (∃ m, m < nm ∧ x = nI m) := by
  have h16 := hm.1
  unfold fX5_exists
  rw [hc.1]
  rcases pk_ix x (n := nm) (by omega) with h | h | ⟨j, hj, rfl⟩
  · rw [if_pos h]
    exact ⟨0, rfl, isb_f (fun ⟨t, ht, e⟩ => by rw [e] at h; exact nI_pos (by omega) h)⟩
  · by_cases g : x < 0
    · rw [if_pos g]
      exact ⟨0, rfl, isb_f (fun ⟨t, ht, e⟩ => by rw [e] at g; exact nI_pos (by omega) g)⟩
    · rw [if_neg g, if_pos h]
      exact ⟨0, rfl, isb_f (fun ⟨t, ht, e⟩ => by rw [e] at h; exact nI_ge ht (by omega) h)⟩
  · rw [if_neg (nI_pos (by omega)), if_neg (nI_ge hj (by omega))]
    exact ⟨1, rfl, isb_t ⟨j, hj, rfl⟩⟩
theorem e_withSignature (hw : WFT s nt) (hm : WFM s nt nm) (hc : CMt s nm m_count m_type m_name m_arity m_keys m_defs) (n a ts : Int32) : ∃ x, fX5_withSignature m_count m_type m_name m_arity n a ts = some x ∧ ∀ k, tb x k = true ↔ ∃ m, m < nm ∧ (k = m ∧ sg s m n a ∧ tb ts (nT s m) = true) := by
  have h8 := hw.1
  have h16 := hm.1
  unfold fX5_withSignature
  refine bits0 (g := fun n' acc i => lX5_withSignature_6 m_count m_type m_name m_arity n' n a ts acc i) (N := nm) (P := fun m k => k = m ∧ sg s m n a ∧ tb ts (nT s m) = true) (fun n' i acc hi => ?_) (fun n' acc => ?_) (by omega)
  · show ∃ acc', lX5_withSignature_6 m_count m_type m_name m_arity (n' + 1) n a ts acc (nI i) = lX5_withSignature_6 m_count m_type m_name m_arity n' n a ts acc' (nI i + 1) ∧ _
    obtain ⟨c1, c2, c3, -⟩ := hc.2 i hi
    obtain ⟨w1, w2, -⟩ := hm.2.2 i hi
    rw [lX5_withSignature_6_s, hc.1, if_neg (up_i (by omega) hi), rd_nI (by omega) (by decide), c2]
    by_cases g1 : rM s i 1 = n
    · rw [if_pos g1, rd_nI (by omega) (by decide), c3]
      by_cases g2 : rM s i 2 = a
      · rw [if_pos g2]
        unfold jX5_withSignature_42
        rw [if_neg (by decide), rd_nI (by omega) (by decide), c1, w1]
        obtain ⟨r, hr, hb⟩ := e_contains ts (k := nT s i) (by omega)
        rw [hr, bn_s]
        by_cases g3 : tb ts (nT s i) = true
        · rw [if_neg (fun q => (isb_0 hb).mp q g3), e_bit, bn_s]
          refine ⟨_, rfl, fun k => ?_⟩
          rw [tb_or, Bool.or_eq_true, tb_bit (by omega), decide_eq_true_iff]
          exact ⟨fun h => h.elim Or.inl (fun e => Or.inr ⟨e, ⟨g1, g2⟩, g3⟩), fun h => h.elim Or.inl (fun e => Or.inr e.1)⟩
        · rw [if_pos ((isb_0 hb).mpr g3)]
          exact ⟨acc, rfl, fun k => ⟨Or.inl, fun h => h.elim id (fun e => absurd e.2.2 g3)⟩⟩
      · rw [if_neg g2]
        unfold jX5_withSignature_41 jX5_withSignature_42
        rw [if_pos rfl]
        exact ⟨acc, rfl, fun k => ⟨Or.inl, fun h => h.elim id (fun e => absurd e.2.1.2 g2)⟩⟩
    · rw [if_neg g1]
      unfold jX5_withSignature_41 jX5_withSignature_42
      rw [if_pos rfl]
      exact ⟨acc, rfl, fun k => ⟨Or.inl, fun h => h.elim id (fun e => absurd e.2.1.1 g1)⟩⟩
  · show lX5_withSignature_6 m_count m_type m_name m_arity (n' + 1) n a ts acc (nI nm) = some acc
    rw [lX5_withSignature_6_s, hc.1, if_pos (up_N (by omega))]
theorem e_smallest (hm : WFM s nt nm) (hc : CMt s nm m_count m_type m_name m_arity m_keys m_defs) (x : Int32) : ∃ r, fX5_smallest m_count x = some r ∧ lst (fun m => tb x m = true) nm r := by
  have h16 := hm.1
  unfold fX5_smallest
  refine lst0 (g := fun n' i => lX5_smallest_2 m_count n' x i) (N := nm) (P := fun m => tb x m = true) (fun n' i hi => ?_) (fun n' => ?_) (by omega)
  · show (tb x i = true → lX5_smallest_2 m_count (n' + 1) x (nI i) = some (nI i)) ∧ (¬ tb x i = true → lX5_smallest_2 m_count (n' + 1) x (nI i) = lX5_smallest_2 m_count n' x (nI i + 1))
    rw [lX5_smallest_2_s, hc.1, if_neg (up_i (by omega) hi)]
    obtain ⟨r, hr, hb⟩ := e_contains x (k := i) (by omega)
    rw [hr, bn_s]
    exact ⟨fun g => if_neg (fun q => (isb_0 hb).mp q g), fun g => if_pos ((isb_0 hb).mpr g)⟩
  · show lX5_smallest_2 m_count (n' + 1) x (nI nm) = some (-9)
    rw [lX5_smallest_2_s, hc.1, if_pos (up_N (by omega))]
theorem ex_self {P : Nat → Prop} {N k : Nat} : (∃ m, m < N ∧ (k = m ∧ P m)) ↔ k < N ∧ P k := by
  constructor
  · rintro ⟨m, h1, rfl, h2⟩
    exact ⟨h1, h2⟩
  · rintro ⟨h1, h2⟩
    exact ⟨k, h1, rfl, h2⟩
theorem e_cdeclaredBy (hw : WFT s nt) (hm : WFM s nt nm) (hc : CMt s nm m_count m_type m_name m_arity m_keys m_defs) {ty : Nat} (hty : ty < nt) (n a : Int32) : ∃ r, fX5_declaredBy m_count m_type m_name m_arity (nI ty) n a = some r ∧ lst (fun m => nT s m = ty ∧ sg s m n a) nm r := by
  have h8 := hw.1
  unfold fX5_declaredBy
  rw [e_bit, bn_s]
  obtain ⟨x, hx, hxb⟩ := e_withSignature hw hm hc n a (1 <<< (nI ty &&& 31))
  rw [hx, bn_s]
  obtain ⟨r, hr, hl⟩ := e_smallest hm hc x
  rw [hr, bn_s]
  refine ⟨r, rfl, lst_iff (fun m hmm => ?_) hl⟩
  rw [hxb m, ex_self, tb_bit (by omega), decide_eq_true_iff]
  exact ⟨fun h => ⟨h.2.2, h.2.1⟩, fun h => ⟨hmm, h.2, h.1⟩⟩
theorem e_typesOf (hw : WFT s nt) (hm : WFM s nt nm) (hc : CMt s nm m_count m_type m_name m_arity m_keys m_defs) (set : Int32) : ∃ x, fX5_typesOf m_count m_type set = some x ∧ ∀ k, tb x k = true ↔ ∃ m, m < nm ∧ (tb set m = true ∧ k = nT s m) := by
  have h8 := hw.1
  have h16 := hm.1
  unfold fX5_typesOf
  refine bits0 (g := fun n' acc i => lX5_typesOf_4 m_count m_type n' set acc i) (N := nm) (P := fun m k => tb set m = true ∧ k = nT s m) (fun n' i acc hi => ?_) (fun n' acc => ?_) (by omega)
  · show ∃ acc', lX5_typesOf_4 m_count m_type (n' + 1) set acc (nI i) = lX5_typesOf_4 m_count m_type n' set acc' (nI i + 1) ∧ _
    rw [lX5_typesOf_4_s, hc.1, if_neg (up_i (by omega) hi)]
    obtain ⟨w1, w2, -⟩ := hm.2.2 i hi
    obtain ⟨r, hr, hb⟩ := e_contains set (k := i) (by omega)
    rw [hr, bn_s]
    by_cases g : tb set i = true
    · rw [if_neg (fun q => (isb_0 hb).mp q g), rd_nI (by omega) (by decide), (hc.2 i hi).1, w1, e_bit, bn_s]
      refine ⟨_, rfl, fun k => ?_⟩
      rw [tb_or, Bool.or_eq_true, tb_bit (by omega), decide_eq_true_iff]
      exact ⟨fun h => h.elim Or.inl (fun e => Or.inr ⟨g, e⟩), fun h => h.elim Or.inl (fun e => Or.inr e.2)⟩
    · rw [if_pos ((isb_0 hb).mpr g)]
      exact ⟨acc, rfl, fun k => ⟨Or.inl, fun h => h.elim id (fun e => absurd e.1 g)⟩⟩
  · show lX5_typesOf_4 m_count m_type (n' + 1) set acc (nI nm) = some acc
    rw [lX5_typesOf_4_s, hc.1, if_pos (up_N (by omega))]
theorem e_keyOf (hm : WFM s nt nm) (hc : CMt s nm m_count m_type m_name m_arity m_keys m_defs) {m i : Nat} (hmm : m < nm) (hi : i < nA s m) : fX5_keyOf m_keys (nI m) (nI i) = some (rM s m (3 + i)) := by
  have h16 := hm.1
  have h5 := (hm.2.2 m hmm).2.2.2.1
  unfold fX5_keyOf
  rw [ix5, rd_nI (by omega) (by decide), ((hc.2 m hmm).2.2.2 i hi).1]
theorem e_defaultOf (hm : WFM s nt nm) (hc : CMt s nm m_count m_type m_name m_arity m_keys m_defs) {m i : Nat} (hmm : m < nm) (hi : i < nA s m) : fX5_defaultOf m_defs (nI m) (nI i) = some (rM s m (8 + i)) := by
  have h16 := hm.1
  have h5 := (hm.2.2 m hmm).2.2.2.1
  unfold fX5_defaultOf
  rw [ix5, rd_nI (by omega) (by decide), ((hc.2 m hmm).2.2.2 i hi).2]
/-- of two methods with one number of parameters -/
theorem e_sameParameters (hm : WFM s nt nm) (hc : CMt s nm m_count m_type m_name m_arity m_keys m_defs) {a b : Nat} (ha : a < nm) (hb : b < nm) (he : rM s a 2 = rM s b 2) : ∃ r, fX5_sameParameters m_arity m_keys m_defs (nI a) (nI b) = some r ∧ isb r (same s a b) := by
  have h16 := hm.1
  obtain ⟨-, -, hA, hA5, -⟩ := hm.2.2 a ha
  have hAb : nA s b = nA s a := by unfold nA; rw [he]
  unfold fX5_sameParameters
  obtain ⟨r, hr, h⟩ := all_loop (g := fun n' i => lX5_sameParameters_2 m_arity m_keys m_defs n' (nI a) (nI b) i) (N := nA s a) (P := fun i => rM s a (3 + i) = rM s b (3 + i) ∧ rM s a (8 + i) = rM s b (8 + i)) (e1 := 0) (e2 := 1) (fun n' i hi => by
    show (_ → lX5_sameParameters_2 m_arity m_keys m_defs (n' + 1) (nI a) (nI b) (nI i) = lX5_sameParameters_2 m_arity m_keys m_defs n' (nI a) (nI b) (nI i + 1)) ∧ (_ → lX5_sameParameters_2 m_arity m_keys m_defs (n' + 1) (nI a) (nI b) (nI i) = some 0)
    rw [lX5_sameParameters_2_s, rd_nI (by omega) (by decide), (hc.2 a ha).2.2.1, hA, if_neg (up_i (by omega) hi), e_keyOf hm hc ha hi, bn_s, e_keyOf hm hc hb (by omega), bn_s]
    unfold jX5_sameParameters_32
    rw [e_defaultOf hm hc ha hi, bn_s, e_defaultOf hm hc hb (by omega), bn_s]
    by_cases g3 : rM s a (3 + i) = rM s b (3 + i)
    · rw [if_pos g3, if_neg (by decide)]
      by_cases g4 : rM s a (8 + i) = rM s b (8 + i)
      · rw [if_pos g4]
        exact ⟨fun _ => rfl, fun h => absurd ⟨g3, g4⟩ h⟩
      · rw [if_neg g4]
        exact ⟨fun h => absurd h.2 g4, fun _ => rfl⟩
    · rw [if_neg g3, if_pos rfl]
      exact ⟨fun h => absurd h.1 g3, fun _ => rfl⟩) (fun n' => by
    show lX5_sameParameters_2 m_arity m_keys m_defs (n' + 1) (nI a) (nI b) (nI (nA s a)) = some 1
    rw [lX5_sameParameters_2_s, rd_nI (by omega) (by decide), (hc.2 a ha).2.2.1, hA, if_pos (up_N (by omega))]) 5000 0 (Nat.zero_le _) (by omega)
  refine ⟨r, hr, ?_⟩
  rcases h with ⟨h1, h2⟩ | ⟨h1, t, -, h2, h3⟩
  · exact Or.inl ⟨h1, he, fun i hi => h2 i (Nat.zero_le i) hi⟩
  · exact Or.inr ⟨h1, fun q => h3 (q.2 t h2)⟩
theorem same_rfl (a : Nat) : same s a a := ⟨rfl, fun _ _ => ⟨rfl, rfl⟩⟩
theorem same_symm {a b : Nat} (h : same s a b) : same s b a := ⟨h.1.symm, fun i hi => by
  have : nA s b = nA s a := by unfold nA; rw [h.1]
  have h2 := h.2 i (by omega)
  exact ⟨h2.1.symm, h2.2.symm⟩⟩
theorem same_trans {a b c : Nat} (h : same s a b) (h2 : same s b c) : same s a c := ⟨h.1.trans h2.1, fun i hi => by
  have : nA s b = nA s a := by unfold nA; rw [h.1]
  have g := h.2 i hi
  have g2 := h2.2 i (by omega)
  exact ⟨g.1.trans g2.1, g.2.trans g2.2⟩⟩
/-- all of a set, which have one number of parameters, have one list -/
theorem e_agree (hm : WFM s nt nm) (hc : CMt s nm m_count m_type m_name m_arity m_keys m_defs) (x : Int32) (hx : ∀ a b, a < nm → b < nm → tb x a = true → tb x b = true → rM s a 2 = rM s b 2) : ∃ r, fX5_agree m_count m_arity m_keys m_defs x = some r ∧ isb r (∀ a b, a < nm → b < nm → tb x a = true → tb x b = true → same s a b) := by
  have h16 := hm.1
  unfold fX5_agree
  obtain ⟨f, hf, hl⟩ := e_smallest hm hc x
  rw [hf, bn_s]
  rcases hl with ⟨a, ha, hta, hmin, rfl⟩ | ⟨rfl, hno⟩
  · rw [if_neg (nI_ne9 (by omega)), nI_1]
    obtain ⟨r, hr, h⟩ := all_loop (g := fun n' i => lX5_agree_18 m_count m_arity m_keys m_defs n' x (nI a) i) (N := nm) (P := fun i => tb x i = true → same s a i) (e1 := 0) (e2 := 1) (fun n' i hi => by
      show (_ → lX5_agree_18 m_count m_arity m_keys m_defs (n' + 1) x (nI a) (nI i) = lX5_agree_18 m_count m_arity m_keys m_defs n' x (nI a) (nI i + 1)) ∧ (_ → lX5_agree_18 m_count m_arity m_keys m_defs (n' + 1) x (nI a) (nI i) = some 0)
      rw [lX5_agree_18_s, hc.1, if_neg (up_i (by omega) hi)]
      obtain ⟨r, hr, hb⟩ := e_contains x (k := i) (by omega)
      rw [hr, bn_s]
      by_cases g : tb x i = true
      · rw [if_neg (fun q => (isb_0 hb).mp q g)]
        obtain ⟨r2, hr2, hb2⟩ := e_sameParameters hm hc ha hi (hx a i ha hi hta g)
        rw [hr2, bn_s]
        by_cases g2 : same s a i
        · rw [if_neg (fun q => (isb_0 hb2).mp q g2)]
          exact ⟨fun _ => rfl, fun h => absurd (fun _ => g2) h⟩
        · rw [if_pos ((isb_0 hb2).mpr g2)]
          exact ⟨fun h => absurd (h g) g2, fun _ => rfl⟩
      · rw [if_pos ((isb_0 hb).mpr g)]
        exact ⟨fun _ => rfl, fun h => absurd (fun q => absurd q g) h⟩) (fun n' => by
      show lX5_agree_18 m_count m_arity m_keys m_defs (n' + 1) x (nI a) (nI nm) = some 1
      rw [lX5_agree_18_s, hc.1, if_pos (up_N (by omega))]) 5000 (a + 1) ha (by omega)
    refine ⟨r, hr, ?_⟩
    rcases h with ⟨h1, h2⟩ | ⟨h1, t, h4, h2, h3⟩
    · have all : ∀ b, b < nm → tb x b = true → same s a b := fun b hb htb => by
        rcases Nat.lt_trichotomy b a with z | z | z
        · exact absurd htb (hmin b z)
        · rw [z]; exact same_rfl a
        · exact h2 b (by omega) hb htb
      exact Or.inl ⟨h1, fun b c hb hcc htb htc => same_trans (same_symm (all b hb htb)) (all c hcc htc)⟩
    · exact Or.inr ⟨h1, fun q => h3 (fun ht => q a t ha h2 hta ht)⟩
  · rw [if_pos rfl]
    exact ⟨1, rfl, isb_t (fun a b ha _ hta => absurd hta (hno a ha))⟩
theorem e_disagreeWithin (hw : WFT s nt) (hm : WFM s nt nm) (hc : CMt s nm m_count m_type m_name m_arity m_keys m_defs) (ts : Int32) : ∃ r, fX5_disagreeWithin m_count m_type m_name m_arity m_keys m_defs ts = some r ∧ isb r (∃ a b, a < nm ∧ b < nm ∧ tb ts (nT s a) = true ∧ tb ts (nT s b) = true ∧ sg s a (rM s b 1) (rM s b 2) ∧ ¬ same s a b) := by
  have h8 := hw.1
  have h16 := hm.1
  unfold fX5_disagreeWithin
  obtain ⟨r, hr, h⟩ := all_loop (g := fun n' i => lX5_disagreeWithin_2 m_count m_type m_name m_arity m_keys m_defs n' ts i) (N := nm) (P := fun i => tb ts (nT s i) = true → ∀ a b, a < nm → b < nm → tb ts (nT s a) = true → tb ts (nT s b) = true → sg s a (rM s i 1) (rM s i 2) → sg s b (rM s i 1) (rM s i 2) → same s a b) (e1 := 1) (e2 := 0) (fun n' i hi => by
    show (_ → lX5_disagreeWithin_2 m_count m_type m_name m_arity m_keys m_defs (n' + 1) ts (nI i) = lX5_disagreeWithin_2 m_count m_type m_name m_arity m_keys m_defs n' ts (nI i + 1)) ∧ (_ → lX5_disagreeWithin_2 m_count m_type m_name m_arity m_keys m_defs (n' + 1) ts (nI i) = some 1)
    obtain ⟨c1, c2, c3, -⟩ := hc.2 i hi
    obtain ⟨w1, w2, -⟩ := hm.2.2 i hi
    rw [lX5_disagreeWithin_2_s, hc.1, if_neg (up_i (by omega) hi), rd_nI (by omega) (by decide), c1, w1]
    obtain ⟨r, hr, hb⟩ := e_contains ts (k := nT s i) (by omega)
    rw [hr, bn_s]
    by_cases g : tb ts (nT s i) = true
    · rw [if_neg (fun q => (isb_0 hb).mp q g), rd_nI (by omega) (by decide), c2, rd_nI (by omega) (by decide), c3]
      rw [← hc.1]
      obtain ⟨x, hx, hxb⟩ := e_withSignature hw hm hc (rM s i 1) (rM s i 2) ts
      rw [hx, bn_s]
      have hxb' : ∀ k, tb x k = true ↔ k < nm ∧ sg s k (rM s i 1) (rM s i 2) ∧ tb ts (nT s k) = true := fun k => by rw [hxb k, ex_self (P := fun m => sg s m (rM s i 1) (rM s i 2) ∧ tb ts (nT s m) = true)]
      obtain ⟨r2, hr2, hb2⟩ := e_agree hm hc x (fun a b ha hb2 hta htb => ((hxb' a).mp hta).2.1.2.trans ((hxb' b).mp htb).2.1.2.symm)
      rw [hr2, bn_s]
      by_cases g2 : ∀ a b, a < nm → b < nm → tb x a = true → tb x b = true → same s a b
      · rw [if_neg (fun q => (isb_0 hb2).mp q g2)]
        exact ⟨fun _ => rfl, fun h => absurd (fun _ a b ha hb hta htb hsa hsb => g2 a b ha hb ((hxb' a).mpr ⟨ha, hsa, hta⟩) ((hxb' b).mpr ⟨hb, hsb, htb⟩)) h⟩
      · rw [if_pos ((isb_0 hb2).mpr g2)]
        exact ⟨fun h => absurd (fun a b ha hb hta htb => h g a b ha hb ((hxb' a).mp hta).2.2 ((hxb' b).mp htb).2.2 ((hxb' a).mp hta).2.1 ((hxb' b).mp htb).2.1) g2, fun _ => rfl⟩
    · rw [if_pos ((isb_0 hb).mpr g)]
      exact ⟨fun _ => rfl, fun h => absurd (fun q => absurd q g) h⟩) (fun n' => by
    show lX5_disagreeWithin_2 m_count m_type m_name m_arity m_keys m_defs (n' + 1) ts (nI nm) = some 0
    rw [lX5_disagreeWithin_2_s, hc.1, if_pos (up_N (by omega))]) 5000 0 (Nat.zero_le _) (by omega)
  refine ⟨r, hr, ?_⟩
  rcases h with ⟨h1, h2⟩ | ⟨h1, t, h4, h2, h3⟩
  · exact Or.inr ⟨h1, fun ⟨a, b, ha, hb, hta, htb, hsg, hns⟩ => hns (h2 b (Nat.zero_le b) hb htb a b ha hb hta htb hsg ⟨rfl, rfl⟩)⟩
  · refine Or.inl ⟨h1, ?_⟩
    refine Classical.byContradiction (fun hn => h3 (fun htt a b ha hb hta htb hsa hsb => Classical.byContradiction (fun hns => hn ⟨a, b, ha, hb, hta, htb, ?_, hns⟩)))
    exact ⟨hsa.1.trans hsb.1.symm, hsa.2.trans hsb.2.symm⟩
end M2
