/-! the reference's methods: at odds, one list, declared, target -/
theorem inv_loop {σ α : Type} {g : Nat → σ → Int32 → Option α} {N : Nat} (I : Nat → σ → Prop) {K : σ → Option α} (hs : ∀ n i y, i < N → I i y → ∃ y', g (n + 1) y (nI i) = g n y' (nI i + 1) ∧ I (i + 1) y') (he : ∀ n y, I N y → g (n + 1) y (nI N) = K y) : ∀ n i y, i ≤ N → N - i < n → I i y → ∃ y', g n y (nI i) = K y' ∧ I N y' := by
  intro n
  induction n with
  | zero => intro i y _ h; omega
  | succ n ih =>
    intro i y hi hn hy
    by_cases hlt : i < N
    · obtain ⟨y', h1, h2⟩ := hs n i y hlt hy
      rw [h1, nI_1]
      exact ih (i + 1) y' hlt (by omega) h2
    · have : i = N := by omega
      subst this
      exact ⟨y, he n y hy, hy⟩
section R1
variable {s : Nat → Int32} {nt nm : Nat}
def odd2 (s : Nat → Int32) (ts : Int32) (a b : Nat) : Prop := tb ts (nT s a) = true ∧ tb ts (nT s b) = true ∧ sg s a (rM s b 1) (rM s b 2) ∧ ¬ same s a b
theorem odd2_symm {ts : Int32} {a b : Nat} (h : odd2 s ts a b) : odd2 s ts b a := ⟨h.2.1, h.1, ⟨h.2.2.1.1.symm, h.2.2.1.2.symm⟩, fun q => h.2.2.2 (same_symm q)⟩
theorem e_areAtOdds (hw : WFT s nt) (hm : WFM s nt nm) (ts : Int32) : ∃ r, fX9_areAtOdds s ts = some r ∧ isb r (∃ a b, a < nm ∧ b < nm ∧ tb ts (nT s a) = true ∧ tb ts (nT s b) = true ∧ sg s a (rM s b 1) (rM s b 2) ∧ ¬ same s a b) := by
  have h8 := hw.1
  have h16 := hm.1
  unfold fX9_areAtOdds
  have inner : ∀ (k4 : Int32 → Int32 → Int32 → Option Int32) (a : Nat) (B : Prop) (y : Int32), a < nm → isb y B → ∃ y', lX9_areAtOdds_18 s k4 5000 ts y (nI a) 0 = k4 ts y' (nI a + 1) ∧ isb y' (B ∨ ∃ b, b < a ∧ odd2 s ts a b) := by
    intro k4 a B y ha hy
    refine inv_loop (g := fun n' y i => lX9_areAtOdds_18 s k4 n' ts y (nI a) i) (N := a) (fun i y => isb y (B ∨ ∃ b, b < i ∧ odd2 s ts a b)) (K := fun y => k4 ts y (nI a + 1)) (fun n' i y hi hI => ?_) (fun n' y hI => ?_) 5000 0 y (Nat.zero_le _) (by omega) (isb_iff hy ⟨Or.inl, fun h => h.elim id (fun q => absurd q ex_zero)⟩)
    · show ∃ y', lX9_areAtOdds_18 s k4 (n' + 1) ts y (nI a) (nI i) = lX9_areAtOdds_18 s k4 n' ts y' (nI a) (nI i + 1) ∧ isb y' (B ∨ ∃ b, b < i + 1 ∧ odd2 s ts a b)
      have hI : isb y (B ∨ ∃ b, b < i ∧ odd2 s ts a b) := hI
      rw [lX9_areAtOdds_18_s, if_neg (nI_ge hi (by omega))]
      unfold jX9_areAtOdds_79 jX9_areAtOdds_75 jX9_areAtOdds_80
      rcases hI with ⟨rfl, hp⟩ | ⟨rfl, hp⟩
      · rw [if_neg (by decide)]
        exact ⟨1, rfl, isb_t (hp.elim Or.inl (fun q => Or.inr (ex_succ.mpr (Or.inl q))))⟩
      · have no : ¬ odd2 s ts a i → isb 0 (B ∨ ∃ b, b < i + 1 ∧ odd2 s ts a b) := fun h => isb_f (fun q => q.elim (fun z => hp (Or.inl z)) (fun z => (ex_succ.mp z).elim (fun z => hp (Or.inr z)) h))
        obtain ⟨wa, wa2, -⟩ := hm.2.2 a ha
        obtain ⟨wi, wi2, -⟩ := hm.2.2 i (by omega)
        rw [if_pos rfl, e_of0 (by omega), bn_s, wa]
        obtain ⟨r1, hr1, hb1⟩ := e_has ts (k := nT s a) (by omega)
        rw [hr1, bn_s]
        by_cases g1 : tb ts (nT s a) = true
        · rw [if_neg (fun q => (isb_0 hb1).mp q g1), e_of0 (by omega), bn_s, wi]
          obtain ⟨r2, hr2, hb2⟩ := e_has ts (k := nT s i) (by omega)
          rw [hr2, bn_s]
          by_cases g2 : tb ts (nT s i) = true
          · rw [if_neg (fun q => (isb_0 hb2).mp q g2)]
            obtain ⟨r3, hr3, hb3⟩ := e_areAlikeNamed (s := s) (a := a) (b := i) (by omega) (by omega)
            rw [hr3, bn_s]
            by_cases g3 : sg s a (rM s i 1) (rM s i 2)
            · rw [if_neg (fun q => (isb_0 hb3).mp q g3)]
              obtain ⟨r4, hr4, hb4⟩ := e_haveSameList hm ha (b := i) (by omega)
              rw [hr4, bn_s]
              by_cases g4 : same s a i
              · rw [if_neg (fun q => (isb_0 hb4).mp q g4)]
                exact ⟨0, rfl, no (fun z => z.2.2.2 g4)⟩
              · rw [if_pos ((isb_0 hb4).mpr g4)]
                exact ⟨1, rfl, isb_t (Or.inr (ex_succ.mpr (Or.inr ⟨g1, g2, g3, g4⟩)))⟩
            · rw [if_pos ((isb_0 hb3).mpr g3)]
              exact ⟨0, rfl, no (fun z => g3 z.2.2.1)⟩
          · rw [if_pos ((isb_0 hb2).mpr g2)]
            exact ⟨0, rfl, no (fun z => g2 z.2.1)⟩
        · rw [if_pos ((isb_0 hb1).mpr g1)]
          exact ⟨0, rfl, no (fun z => g1 z.1)⟩
    · show lX9_areAtOdds_18 s k4 (n' + 1) ts y (nI a) (nI a) = k4 ts y (nI a + 1)
      rw [lX9_areAtOdds_18_s, if_pos (nI_le (Nat.le_refl a) (by omega))]
  obtain ⟨r, hr, hb⟩ := inv_loop (g := fun n' y i => lX9_areAtOdds_4 s n' ts y i) (N := nm) (fun i y => isb y (∃ a, a < i ∧ ∃ b, b < a ∧ odd2 s ts a b)) (K := rb) (fun n' i y hi hI => by
    show ∃ y', lX9_areAtOdds_4 s (n' + 1) ts y (nI i) = lX9_areAtOdds_4 s n' ts y' (nI i + 1) ∧ isb y' (∃ a, a < i + 1 ∧ ∃ b, b < a ∧ odd2 s ts a b)
    rw [lX9_areAtOdds_4_s, rd_l25, hm.2.1, if_neg (up_i (by omega) hi)]
    obtain ⟨y', h1, h2⟩ := inner (fun u1 u2 u3 => lX9_areAtOdds_4 s n' u1 u2 u3) i _ y hi hI
    exact ⟨y', h1, isb_iff h2 ex_succ.symm⟩) (fun n' y hI => by
    show lX9_areAtOdds_4 s (n' + 1) ts y (nI nm) = rb y
    rw [lX9_areAtOdds_4_s, rd_l25, hm.2.1, if_pos (up_N (by omega))]) 5000 0 0 (Nat.zero_le _) (by omega) (isb_f ex_zero)
  have hb : isb r (∃ a, a < nm ∧ ∃ b, b < a ∧ odd2 s ts a b) := hb
  refine ⟨r, hr.trans (isb_rb hb), isb_iff hb ⟨?_, ?_⟩⟩
  · rintro ⟨a, ha, b, hlt, h⟩
    exact ⟨a, b, ha, by omega, h⟩
  · rintro ⟨a, b, ha, hbn, h⟩
    have h : odd2 s ts a b := h
    rcases Nat.lt_trichotomy a b with z | z | z
    · exact ⟨b, hbn, a, z, odd2_symm h⟩
    · subst z
      exact absurd (same_rfl a) h.2.2.2
    · exact ⟨a, ha, b, z, h⟩
theorem e_haveOneList (hw : WFT s nt) (hm : WFM s nt nm) (x : Int32) (hx : ∀ k, tb x k = true → k < nm) : ∃ r, fX9_haveOneList s x = some r ∧ isb r (∀ a b, a < nm → b < nm → tb x a = true → tb x b = true → same s a b) := by
  have h16 := hm.1
  unfold fX9_haveOneList
  by_cases hne : ∃ k, tb x k = true
  · obtain ⟨k, hk⟩ := hne
    have hkn := hx k hk
    obtain ⟨j, hj, hjk, hjt, hjm⟩ := e_lowest x (k := k) (by omega) hk
    obtain ⟨r, hr, hb⟩ := inv_loop (g := fun n' y i => lX9_haveOneList_4 s n' x y i) (N := nm) (fun i y => isb y (∀ m, m < i → tb x m = true → same s m j)) (K := rb) (fun n' i y hi hI => by
      show ∃ y', lX9_haveOneList_4 s (n' + 1) x y (nI i) = lX9_haveOneList_4 s n' x y' (nI i + 1) ∧ isb y' (∀ m, m < i + 1 → tb x m = true → same s m j)
      have hI : isb y (∀ m, m < i → tb x m = true → same s m j) := hI
      rw [lX9_haveOneList_4_s, rd_l25, hm.2.1, if_neg (up_i (by omega) hi)]
      unfold jX9_haveOneList_44 jX9_haveOneList_40 jX9_haveOneList_45
      rcases hI with ⟨rfl, hp⟩ | ⟨rfl, hp⟩
      · rw [if_neg (by decide)]
        obtain ⟨r1, hr1, hb1⟩ := e_has x (k := i) (by omega)
        rw [hr1, bn_s]
        by_cases g1 : tb x i = true
        · rw [if_neg (fun q => (isb_0 hb1).mp q g1), hj, bn_s]
          obtain ⟨r2, hr2, hb2⟩ := e_haveSameList hm hi (b := j) (by omega)
          rw [hr2, bn_s]
          by_cases g2 : same s i j
          · rw [if_neg (fun q => (isb_0 hb2).mp q g2)]
            exact ⟨1, rfl, isb_t (all_succ.mpr ⟨hp, fun _ => g2⟩)⟩
          · rw [if_pos ((isb_0 hb2).mpr g2)]
            exact ⟨0, rfl, isb_f (fun q => g2 (q i (Nat.lt_succ_self i) g1))⟩
        · rw [if_pos ((isb_0 hb1).mpr g1)]
          exact ⟨1, rfl, isb_t (all_succ.mpr ⟨hp, fun z => absurd z g1⟩)⟩
      · rw [if_pos rfl]
        exact ⟨0, rfl, isb_f (fun q => hp (all_succ.mp q).1)⟩) (fun n' y hI => by
      show lX9_haveOneList_4 s (n' + 1) x y (nI nm) = rb y
      rw [lX9_haveOneList_4_s, rd_l25, hm.2.1, if_pos (up_N (by omega))]) 5000 0 1 (Nat.zero_le _) (by omega) (isb_t (fun m h => absurd h (Nat.not_lt_zero m)))
    have hb : isb r (∀ m, m < nm → tb x m = true → same s m j) := hb
    exact ⟨r, hr.trans (isb_rb hb), isb_iff hb ⟨fun h a b ha hbn hta htb => same_trans (h a ha hta) (same_symm (h b hbn htb)), fun h m hmm ht => h m j hmm (by omega) ht hjt⟩⟩
  · obtain ⟨r, hr, hb⟩ := inv_loop (g := fun n' y i => lX9_haveOneList_4 s n' x y i) (N := nm) (fun i y => y = 1) (K := rb) (fun n' i y hi hI => by
      show ∃ y', lX9_haveOneList_4 s (n' + 1) x y (nI i) = lX9_haveOneList_4 s n' x y' (nI i + 1) ∧ y' = 1
      have hI : y = 1 := hI
      subst hI
      rw [lX9_haveOneList_4_s, rd_l25, hm.2.1, if_neg (up_i (by omega) hi)]
      unfold jX9_haveOneList_44 jX9_haveOneList_40 jX9_haveOneList_45
      rw [if_neg (by decide)]
      obtain ⟨r1, hr1, hb1⟩ := e_has x (k := i) (by omega)
      rw [hr1, bn_s, if_pos ((isb_0 hb1).mpr (fun q => hne ⟨i, q⟩))]
      exact ⟨1, rfl, rfl⟩) (fun n' y hI => by
      show lX9_haveOneList_4 s (n' + 1) x y (nI nm) = rb y
      rw [lX9_haveOneList_4_s, rd_l25, hm.2.1, if_pos (up_N (by omega))]) 5000 0 1 (Nat.zero_le _) (by omega) rfl
    have hb : r = 1 := hb
    subst hb
    exact ⟨1, hr, isb_t (fun a b _ _ hta _ => absurd ⟨a, hta⟩ hne)⟩
theorem e_declares (hm : WFM s nt nm) (hw : WFT s nt) {ty : Nat} (hty : ty < nt) (n a : Int32) : ∃ r, fX9_declares s (nI ty) n a = some r ∧ isb r (∃ m, m < nm ∧ (nT s m = ty ∧ sg s m n a)) := by
  have h8 := hw.1
  have h16 := hm.1
  unfold fX9_declares
  refine or0 (g := fun n' y i => lX9_declares_6 s n' (nI ty) n a y i) (N := nm) (P := fun m => nT s m = ty ∧ sg s m n a) (fun n' i hi => ?_) (fun n' y => ?_) (by omega)
  · show lX9_declares_6 s (n' + 1) (nI ty) n a 1 (nI i) = lX9_declares_6 s n' (nI ty) n a 1 (nI i + 1) ∧ (_ → lX9_declares_6 s (n' + 1) (nI ty) n a 0 (nI i) = lX9_declares_6 s n' (nI ty) n a 1 (nI i + 1)) ∧ (_ → lX9_declares_6 s (n' + 1) (nI ty) n a 0 (nI i) = lX9_declares_6 s n' (nI ty) n a 0 (nI i + 1))
    obtain ⟨wi, wi2, -⟩ := hm.2.2 i hi
    rw [lX9_declares_6_s, lX9_declares_6_s, rd_l25, rd_l25, hm.2.1, if_neg (up_i (by omega) hi), if_neg (up_i (by omega) hi), if_neg (by decide), if_pos rfl, e_of0 (by omega), bn_s, wi]
    unfold jX9_declares_45 jX9_declares_49 jX9_declares_50
    refine ⟨rfl, ?_⟩
    by_cases g1 : nT s i = ty
    · rw [if_pos (by rw [g1])]
      obtain ⟨r, hr, hb⟩ := e_isNamed (s := s) (m := i) (by omega) n a
      rw [hr, bn_s]
      by_cases g2 : sg s i n a
      · rw [if_neg (fun q => (isb_0 hb).mp q g2)]
        exact ⟨fun _ => rfl, fun h => absurd ⟨g1, g2⟩ h⟩
      · rw [if_pos ((isb_0 hb).mpr g2)]
        exact ⟨fun h => absurd h.2 g2, fun _ => rfl⟩
    · rw [if_neg (fun q => g1 (nI_inj (by omega) (by omega) q))]
      exact ⟨fun h => absurd h.1 g1, fun _ => rfl⟩
  · show lX9_declares_6 s (n' + 1) (nI ty) n a y (nI nm) = rb y
    rw [lX9_declares_6_s, rd_l25, hm.2.1, if_pos (up_N (by omega))]
theorem e_targetOf (hw : WFT s nt) (hm : WFM s nt nm) {st : Nat} (hst : st < nt) (n a : Int32) : ∃ r, fX9_targetOf s (nI st) n a = some r ∧ lst (fun m => sg s m n a ∧ up s st (nT s m)) nm r := by
  have h8 := hw.1
  have h16 := hm.1
  unfold fX9_targetOf
  refine lst0 (g := fun n' i => lX9_targetOf_3 s n' (nI st) n a i) (N := nm) (P := fun m => sg s m n a ∧ up s st (nT s m)) (fun n' i hi => ?_) (fun n' => ?_) (by omega)
  · show (_ → lX9_targetOf_3 s (n' + 1) (nI st) n a (nI i) = some (nI i)) ∧ (_ → lX9_targetOf_3 s (n' + 1) (nI st) n a (nI i) = lX9_targetOf_3 s n' (nI st) n a (nI i + 1))
    obtain ⟨wi, wi2, -⟩ := hm.2.2 i hi
    rw [lX9_targetOf_3_s, rd_l25, hm.2.1, if_neg (up_i (by omega) hi)]
    obtain ⟨r, hr, hb⟩ := e_isNamed (s := s) (m := i) (by omega) n a
    rw [hr, bn_s]
    by_cases g1 : sg s i n a
    · rw [if_neg (fun q => (isb_0 hb).mp q g1)]
      obtain ⟨x, hx, hxb⟩ := e_supers hw hst
      rw [hx, bn_s, e_of0 (by omega), bn_s, wi]
      obtain ⟨r2, hr2, hb2⟩ := e_has x (k := nT s i) (by omega)
      rw [hr2, bn_s]
      by_cases g2 : up s st (nT s i)
      · rw [if_neg (fun q => (isb_0 hb2).mp q ((hxb _).mpr g2))]
        exact ⟨fun _ => rfl, fun h => absurd ⟨g1, g2⟩ h⟩
      · rw [if_pos ((isb_0 hb2).mpr (fun q => g2 ((hxb _).mp q)))]
        exact ⟨fun h => absurd h.2 g2, fun _ => rfl⟩
    · rw [if_pos ((isb_0 hb).mpr g1)]
      exact ⟨fun h => absurd h.1 g1, fun _ => rfl⟩
  · show lX9_targetOf_3 s (n' + 1) (nI st) n a (nI nm) = some (-9)
    rw [lX9_targetOf_3_s, rd_l25, hm.2.1, if_pos (up_N (by omega))]
theorem e_declaredBy (hw : WFT s nt) (hm : WFM s nt nm) {ty g : Nat} (hty : ty < nt) (hg : g < nm) : ∃ r, fX9_declaredBy s (nI ty) (nI g) = some r ∧ lst (fun m => nT s m = ty ∧ sg s m (rM s g 1) (rM s g 2)) nm r := by
  have h8 := hw.1
  have h16 := hm.1
  unfold fX9_declaredBy
  refine lst0 (g := fun n' i => lX9_declaredBy_2 s n' (nI ty) (nI g) i) (N := nm) (P := fun m => nT s m = ty ∧ sg s m (rM s g 1) (rM s g 2)) (fun n' i hi => ?_) (fun n' => ?_) (by omega)
  · show (_ → lX9_declaredBy_2 s (n' + 1) (nI ty) (nI g) (nI i) = some (nI i)) ∧ (_ → lX9_declaredBy_2 s (n' + 1) (nI ty) (nI g) (nI i) = lX9_declaredBy_2 s n' (nI ty) (nI g) (nI i + 1))
    obtain ⟨wi, wi2, -⟩ := hm.2.2 i hi
    rw [lX9_declaredBy_2_s, rd_l25, hm.2.1, if_neg (up_i (by omega) hi), e_of0 (by omega), bn_s, wi]
    by_cases g1 : nT s i = ty
    · rw [if_pos (by rw [g1])]
      obtain ⟨r, hr, hb⟩ := e_areAlikeNamed (s := s) (a := i) (b := g) (by omega) (by omega)
      rw [hr, bn_s]
      by_cases g2 : sg s i (rM s g 1) (rM s g 2)
      · rw [if_neg (fun q => (isb_0 hb).mp q g2)]
        exact ⟨fun _ => rfl, fun h => absurd ⟨g1, g2⟩ h⟩
      · rw [if_pos ((isb_0 hb).mpr g2)]
        exact ⟨fun h => absurd h.2 g2, fun _ => rfl⟩
    · rw [if_neg (fun q => g1 (nI_inj (by omega) (by omega) q))]
      exact ⟨fun h => absurd h.1 g1, fun _ => rfl⟩
  · show lX9_declaredBy_2 s (n' + 1) (nI ty) (nI g) (nI nm) = some (-9)
    rw [lX9_declaredBy_2_s, rd_l25, hm.2.1, if_pos (up_N (by omega))]
end R1
