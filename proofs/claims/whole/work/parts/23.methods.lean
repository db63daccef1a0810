/-! methods: s holds; class and reference agree -/
def Nn (x : Int32) : Nat := x.toNatClampNeg
/-- the fields of the reference's methods and calls -/
def rM (s : Nat → Int32) (m w : Nat) : Int32 := s (26 + 13 * m + w)
def rC (s : Nat → Int32) (c w : Nat) : Int32 := s (235 + 29 * c + w)
def nT (s : Nat → Int32) (m : Nat) : Nat := Nn (rM s m 0)
def nA (s : Nat → Int32) (m : Nat) : Nat := Nn (rM s m 2)
def nK (s : Nat → Int32) (m i : Nat) : Nat := Nn (rM s m (3 + i))
def WFM (s : Nat → Int32) (nt nm : Nat) : Prop := nm ≤ 16 ∧ s 25 = nI nm ∧ ∀ m, m < nm → rM s m 0 = nI (nT s m) ∧ nT s m < nt ∧ rM s m 2 = nI (nA s m) ∧ nA s m ≤ 5 ∧ (∀ i, i < nA s m → rM s m (3 + i) = nI (nK s m i) ∧ nK s m i < 10) ∧ (∀ i j, i < j → j < nA s m → nK s m i ≠ nK s m j)
/-- m has this signature -/
def sg (s : Nat → Int32) (m : Nat) (n a : Int32) : Prop := rM s m 1 = n ∧ rM s m 2 = a
/-- the parameter lists are the same -/
def same (s : Nat → Int32) (a b : Nat) : Prop := rM s a 2 = rM s b 2 ∧ ∀ i, i < nA s a → rM s a (3 + i) = rM s b (3 + i) ∧ rM s a (8 + i) = rM s b (8 + i)
theorem ixM (m w : Nat) : ((26 : Int32) + 13 * nI m) + nI w = nI (26 + 13 * m + w) := by
  show (nI 26 + nI 13 * nI m) + nI w = _
  rw [nI_mul, nI_add, nI_add]
theorem ixC (c w : Nat) : ((235 : Int32) + 29 * nI c) + nI w = nI (235 + 29 * c + w) := by
  show (nI 235 + nI 29 * nI c) + nI w = _
  rw [nI_mul, nI_add, nI_add]
theorem ix5 (m i : Nat) : nI m * 5 + nI i = nI (m * 5 + i) := by
  show nI m * nI 5 + nI i = _
  rw [nI_mul, nI_add]
theorem e_of {s : Nat → Int32} {m w : Nat} (hm : m < 16) (hw : w < 13) {x : Int32} (hx : x = nI w) : fX9_of s (nI m) x = some (rM s m w) := by
  subst hx
  unfold fX9_of
  rw [ixM, rd_nI (by omega) (by decide)]
  rfl
theorem e_of0 {s : Nat → Int32} {m : Nat} (hm : m < 16) : fX9_of s (nI m) 0 = some (rM s m 0) := e_of hm (by decide) rfl
theorem e_of1 {s : Nat → Int32} {m : Nat} (hm : m < 16) : fX9_of s (nI m) 1 = some (rM s m 1) := e_of hm (by decide) rfl
theorem e_of2 {s : Nat → Int32} {m : Nat} (hm : m < 16) : fX9_of s (nI m) 2 = some (rM s m 2) := e_of hm (by decide) rfl
theorem o3 (i : Nat) : (3 : Int32) + nI i = nI (3 + i) := nI_add 3 i
theorem o8 (i : Nat) : (8 : Int32) + nI i = nI (8 + i) := nI_add 8 i
section M1
variable {s : Nat → Int32} {nt nm : Nat}
theorem e_isNamed {m : Nat} (hm : m < 16) (n a : Int32) : ∃ r, fX9_isNamed s (nI m) n a = some r ∧ isb r (sg s m n a) := by
  unfold fX9_isNamed
  rw [e_of1 hm, bn_s]
  by_cases h1 : rM s m 1 = n
  · rw [if_pos h1, e_of2 hm, bn_s]
    by_cases h2 : rM s m 2 = a
    · rw [if_pos h2]
      exact ⟨1, rfl, isb_t ⟨h1, h2⟩⟩
    · rw [if_neg h2]
      exact ⟨0, rfl, isb_f (fun q => h2 q.2)⟩
  · rw [if_neg h1]
    exact ⟨0, rfl, isb_f (fun q => h1 q.1)⟩
theorem e_areAlikeNamed {a b : Nat} (ha : a < 16) (hb : b < 16) : ∃ r, fX9_areAlikeNamed s (nI a) (nI b) = some r ∧ isb r (sg s a (rM s b 1) (rM s b 2)) := by
  unfold fX9_areAlikeNamed
  rw [e_of1 hb, bn_s, e_of2 hb, bn_s]
  obtain ⟨r, hr, hbb⟩ := e_isNamed (s := s) ha (rM s b 1) (rM s b 2)
  rw [hr, bn_s]
  exact ⟨r, isb_rb hbb, hbb⟩
theorem e_isMethod (hm : WFM s nt nm) (x : Int32) : ∃ r, fX9_isMethod s x = some r ∧ isb r (∃ m, m < nm ∧ x = nI m) := by
  have h16 := hm.1
  unfold fX9_isMethod
  rw [rd_l25, hm.2.1]
  obtain ⟨r, hr, hb⟩ := e_in x 0 (nI nm - 1)
  rw [hr, bn_s]
  exact ⟨r, isb_rb hb, isb_iff hb (in_idx (by omega))⟩
theorem e_relatives (hw : WFT s nt) (hm : WFM s nt nm) {ty : Nat} (hty : ty < nt) (n a : Int32) : ∃ x, fX9_relatives s (nI ty) n a = some x ∧ ∀ k, tb x k = true ↔ ∃ m, m < nm ∧ (k = m ∧ sg s m n a ∧ conn s nt ty (nT s m)) := by
  have h8 := hw.1
  have h16 := hm.1
  unfold fX9_relatives
  refine bits0 (g := fun n' acc i => lX9_relatives_6 s n' (nI ty) n a acc i) (N := nm) (P := fun m k => k = m ∧ sg s m n a ∧ conn s nt ty (nT s m)) (fun n' i acc hi => ?_) (fun n' acc => ?_) (by omega)
  · show ∃ acc', lX9_relatives_6 s (n' + 1) (nI ty) n a acc (nI i) = lX9_relatives_6 s n' (nI ty) n a acc' (nI i + 1) ∧ _
    rw [lX9_relatives_6_s, rd_l25, hm.2.1, if_neg (up_i (by omega) hi)]
    obtain ⟨r, hr, hb⟩ := e_isNamed (s := s) (m := i) (by omega) n a
    rw [hr, bn_s]
    by_cases g : sg s i n a
    · rw [if_neg (fun q => (isb_0 hb).mp q g), e_of0 (by omega), bn_s, (hm.2.2 i hi).1]
      have hti := (hm.2.2 i hi).2.1
      obtain ⟨r2, hr2, hb2⟩ := e_areConnected hw (a := ty) (b := nT s i) (by omega) (by omega)
      rw [hr2, bn_s]
      by_cases g2 : conn s nt ty (nT s i)
      · rw [if_neg (fun q => (isb_0 hb2).mp q g2)]
        unfold jX9_relatives_54
        refine ⟨_, rfl, fun k => ?_⟩
        rw [tb_or, Bool.or_eq_true, tb_bit (by omega), decide_eq_true_iff]
        exact ⟨fun h => h.elim Or.inl (fun e => Or.inr ⟨e, g, g2⟩), fun h => h.elim Or.inl (fun e => Or.inr e.1)⟩
      · rw [if_pos ((isb_0 hb2).mpr g2)]
        unfold jX9_relatives_53 jX9_relatives_54
        refine ⟨_, rfl, fun k => ?_⟩
        rw [tb_or, tb_zero, Bool.or_false]
        exact ⟨Or.inl, fun h => h.elim id (fun e => absurd e.2.2 g2)⟩
    · rw [if_pos ((isb_0 hb).mpr g)]
      unfold jX9_relatives_53 jX9_relatives_54
      refine ⟨_, rfl, fun k => ?_⟩
      rw [tb_or, tb_zero, Bool.or_false]
      exact ⟨Or.inl, fun h => h.elim id (fun e => absurd e.2.1 g)⟩
  · show lX9_relatives_6 s (n' + 1) (nI ty) n a acc (nI nm) = some acc
    rw [lX9_relatives_6_s, rd_l25, hm.2.1, if_pos (up_N (by omega))]
theorem e_lowest (x : Int32) {k : Nat} (hk : k < 32) (hx : tb x k = true) : ∃ j, fX9_lowest x = some (nI j) ∧ j ≤ k ∧ tb x j = true ∧ ∀ i, i < j → tb x i = false := by
  unfold fX9_lowest
  have key : ∀ n i, i ≤ k → k - i < n → (∀ i', i' < i → tb x i' = false) → ∃ j, lX9_lowest_2 n x (nI i) = some (nI j) ∧ j ≤ k ∧ tb x j = true ∧ ∀ i', i' < j → tb x i' = false := by
    intro n
    induction n with
    | zero => intro i _ h; omega
    | succ n ih =>
      intro i hi hn hj
      rw [lX9_lowest_2_s]
      obtain ⟨r, hr, hb⟩ := e_has x (k := i) (by omega)
      rw [hr, bn_s]
      by_cases g : tb x i = true
      · rw [if_neg (fun q => (isb_0 hb).mp q g)]
        exact ⟨i, rfl, hi, g, hj⟩
      · rw [if_pos ((isb_0 hb).mpr g), nI_1]
        have hne : i ≠ k := fun e => g (by rw [e]; exact hx)
        refine ih (i + 1) (by omega) (by omega) (fun i' h => ?_)
        by_cases e : i' = i
        · rw [e]
          exact Bool.eq_false_iff.mpr g
        · exact hj i' (by omega)
  exact key 5000 0 (Nat.zero_le _) (by omega) (fun i' h => absurd h (Nat.not_lt_zero _))
theorem e_haveSameList (hm : WFM s nt nm) {a b : Nat} (ha : a < nm) (hb : b < nm) : ∃ r, fX9_haveSameList s (nI a) (nI b) = some r ∧ isb r (same s a b) := by
  have h16 := hm.1
  obtain ⟨-, -, hA, hA5, -⟩ := hm.2.2 a ha
  unfold fX9_haveSameList
  rw [e_of2 (by omega), bn_s, e_of2 (by omega), bn_s]
  have key : ∀ n i (y : Int32), i ≤ 5 → 5 - i < n → isb y (rM s a 2 = rM s b 2 ∧ ∀ j, j < i → j < nA s a → rM s a (3 + j) = rM s b (3 + j) ∧ rM s a (8 + j) = rM s b (8 + j)) → ∃ r, lX9_haveSameList_24 s n (nI a) (nI b) y (nI i) = some r ∧ isb r (same s a b) := by
    intro n
    induction n with
    | zero => intro i y _ h; omega
    | succ n ih =>
      intro i y hi hn hy
      rw [lX9_haveSameList_24_s]
      by_cases hlt : i < 5
      · rw [if_neg (show ¬ (5 : Int32) ≤ nI i from up_i (N := 5) (by decide) hlt)]
        rcases hy with ⟨rfl, hp⟩ | ⟨rfl, hp⟩
        · rw [if_neg (by decide), e_of2 (by omega), bn_s, hA]
          have go1 : (i < nA s a → rM s a (3 + i) = rM s b (3 + i) ∧ rM s a (8 + i) = rM s b (8 + i)) → ∃ r, lX9_haveSameList_24 s n (nI a) (nI b) 1 (nI i + 1) = some r ∧ isb r (same s a b) := fun hq => by
            rw [nI_1]
            refine ih (i + 1) 1 (by omega) (by omega) (isb_t ⟨hp.1, fun j h1 h2 => ?_⟩)
            by_cases e : j = i
            · subst e
              exact hq h2
            · exact hp.2 j (by omega) h2
          have go0 : ¬ (i < nA s a → rM s a (3 + i) = rM s b (3 + i) ∧ rM s a (8 + i) = rM s b (8 + i)) → ∃ r, lX9_haveSameList_24 s n (nI a) (nI b) 0 (nI i + 1) = some r ∧ isb r (same s a b) := fun hq => by
            rw [nI_1]
            exact ih (i + 1) 0 (by omega) (by omega) (isb_f (fun z => hq (fun h => z.2 i (by omega) h)))
          by_cases g : nA s a ≤ i
          · rw [if_pos (nI_le g (by omega))]
            unfold jX9_haveSameList_89 jX9_haveSameList_94
            exact go1 (fun h => absurd h (by omega))
          · rw [if_neg (nI_ge (by omega) (by omega)), o3, o8, e_of (w := 3 + i) (by omega) (by omega) rfl, bn_s, e_of (w := 3 + i) (by omega) (by omega) rfl, bn_s]
            by_cases g3 : rM s a (3 + i) = rM s b (3 + i)
            · rw [if_pos g3, e_of (w := 8 + i) (by omega) (by omega) rfl, bn_s, e_of (w := 8 + i) (by omega) (by omega) rfl, bn_s]
              by_cases g4 : rM s a (8 + i) = rM s b (8 + i)
              · rw [if_pos g4]
                unfold jX9_haveSameList_89 jX9_haveSameList_94
                exact go1 (fun _ => ⟨g3, g4⟩)
              · rw [if_neg g4]
                unfold jX9_haveSameList_93 jX9_haveSameList_94
                exact go0 (fun z => g4 (z (by omega)).2)
            · rw [if_neg g3]
              unfold jX9_haveSameList_93 jX9_haveSameList_94
              exact go0 (fun z => g3 (z (by omega)).1)
        · rw [if_pos rfl]
          exact ⟨0, rfl, isb_f (fun z => hp ⟨z.1, fun j _ h2 => z.2 j h2⟩)⟩
      · have : i = 5 := by omega
        subst this
        rw [if_pos (by decide), isb_rb hy]
        exact ⟨y, rfl, isb_iff hy ⟨fun z => ⟨z.1, fun j h => z.2 j (by omega) h⟩, fun z => ⟨z.1, fun j _ h => z.2 j h⟩⟩⟩
  unfold jX9_haveSameList_20
  by_cases g : rM s a 2 = rM s b 2
  · rw [if_pos g]
    exact key 5000 0 1 (by decide) (by decide) (isb_t ⟨g, fun j h => absurd h (Nat.not_lt_zero j)⟩)
  · rw [if_neg g]
    exact key 5000 0 0 (by decide) (by decide) (isb_f (fun z => g z.1))
end M1
