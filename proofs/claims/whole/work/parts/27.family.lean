/-! the family -/
def cnt (x : Int32) : Nat → Nat
  | 0 => 0
  | n + 1 => cnt x n + if tb x n = true then 1 else 0
theorem cnt_le_N (x : Int32) (N : Nat) : cnt x N ≤ N := by
  induction N with
  | zero => exact Nat.le_refl 0
  | succ n ih =>
    show cnt x n + (if tb x n = true then 1 else 0) ≤ n + 1
    split <;> omega
theorem cnt_le {x y : Int32} (h : ∀ k, tb x k = true → tb y k = true) (N : Nat) : cnt x N ≤ cnt y N := by
  induction N with
  | zero => exact Nat.le_refl 0
  | succ n ih =>
    show cnt x n + (if tb x n = true then 1 else 0) ≤ cnt y n + (if tb y n = true then 1 else 0)
    by_cases g : tb x n = true
    · rw [if_pos g, if_pos (h n g)]
      omega
    · rw [if_neg g]
      omega
theorem cnt_lt {x y : Int32} (h : ∀ k, tb x k = true → tb y k = true) {N k : Nat} (hk : k < N) (h1 : tb y k = true) (h2 : ¬ tb x k = true) : cnt x N < cnt y N := by
  induction N with
  | zero => omega
  | succ n ih =>
    show cnt x n + (if tb x n = true then 1 else 0) < cnt y n + (if tb y n = true then 1 else 0)
    by_cases e : k = n
    · subst e
      rw [if_pos h1, if_neg h2]
      have := cnt_le h k
      omega
    · have := ih (by omega)
      by_cases g : tb x n = true
      · rw [if_pos g, if_pos (h n g)]
        omega
      · rw [if_neg g]
        omega
theorem cnt_pos {x : Int32} {N k : Nat} (hk : k < N) (h1 : tb x k = true) : 0 < cnt x N := by
  have := cnt_lt (x := 0) (y := x) (fun j hj => by rw [tb_zero] at hj; cases hj) hk h1 (by rw [tb_zero]; decide)
  omega
section F1
variable {s : Nat → Int32} {nt nm : Nat} {t_count t_ifs : Int32} {t_sup : Nat → Int32} {m_count : Int32} {m_type m_name m_arity m_keys m_defs : Nat → Int32}
def fam (s : Nat → Int32) (nt nm m k : Nat) : Prop := ∀ S : Nat → Prop, S m → (∀ x y, S x → y < nm → sg s y (rM s m 1) (rM s m 2) → conn s nt (nT s x) (nT s y) → S y) → S k
theorem fam_rfl (m : Nat) : fam s nt nm m m := fun _ h _ => h
theorem fam_step {m x y : Nat} (h : fam s nt nm m x) (hy : y < nm) (hs : sg s y (rM s m 1) (rM s m 2)) (hc : conn s nt (nT s x) (nT s y)) : fam s nt nm m y := fun S h1 h2 => h2 x y (h S h1 h2) hy hs hc
theorem fam_lt {m k : Nat} (hm : m < nm) (h : fam s nt nm m k) : k < nm := h (fun k => k < nm) hm (fun _ _ _ hy _ _ => hy)
theorem fam_sg {m k : Nat} (h : fam s nt nm m k) : sg s k (rM s m 1) (rM s m 2) := h (fun k => sg s k (rM s m 1) (rM s m 2)) ⟨rfl, rfl⟩ (fun _ _ _ _ hs _ => hs)
theorem conn_symm {a b : Nat} (h : conn s nt a b) : conn s nt b a := by
  obtain ⟨t, h1, h2, h3⟩ := h
  exact ⟨t, h1, h3, h2⟩
theorem conn_rfl {a : Nat} (h : a < nt) : conn s nt a a := ⟨a, h, up_rfl a, up_rfl a⟩
/-- a set between m and the family that is closed is the family -/
theorem fam_of_closed {m : Nat} {x : Int32} (h1 : tb x m = true) (h2 : ∀ k, tb x k = true → fam s nt nm m k) (h3 : ∀ j k, tb x j = true → k < nm → sg s k (rM s m 1) (rM s m 2) → conn s nt (nT s j) (nT s k) → tb x k = true) (k : Nat) : tb x k = true ↔ fam s nt nm m k :=
  ⟨h2 k, fun h => h (fun k => tb x k = true) h1 h3⟩
theorem fam_inner (hw : WFT s nt) (hm : WFM s nt nm) {m : Nat} (hmm : m < nm) (k6 : Int32 → Int32 → Option Int32) (was : Int32) (hwas : ∀ k, tb was k = true → fam s nt nm m k) : ∃ y, lX9_familyOf_16 s k6 5000 was was 0 = (if y = was then k6 y 0 else k6 y 1) ∧ (∀ k, tb was k = true → tb y k = true) ∧ (∀ k, tb y k = true → fam s nt nm m k) ∧ ∀ j, j < nm → tb was j = true → ∀ k, k < nm → sg s k (rM s m 1) (rM s m 2) → conn s nt (nT s j) (nT s k) → tb y k = true := by
  have h8 := hw.1
  have h16 := hm.1
  refine inv_loop (g := fun n' y i => lX9_familyOf_16 s k6 n' y was i) (N := nm) (fun i y => (∀ k, tb was k = true → tb y k = true) ∧ (∀ k, tb y k = true → fam s nt nm m k) ∧ ∀ j, j < i → tb was j = true → ∀ k, k < nm → sg s k (rM s m 1) (rM s m 2) → conn s nt (nT s j) (nT s k) → tb y k = true) (K := fun y => if y = was then k6 y 0 else k6 y 1) (fun n' i y hi hI => ?_) (fun n' y hI => ?_) 5000 0 was (Nat.zero_le _) (by omega) ⟨fun _ h => h, hwas, fun j h => absurd h (Nat.not_lt_zero j)⟩
  · obtain ⟨i1, i2, i3⟩ := hI
    show ∃ y', lX9_familyOf_16 s k6 (n' + 1) y was (nI i) = lX9_familyOf_16 s k6 n' y' was (nI i + 1) ∧ (∀ k, tb was k = true → tb y' k = true) ∧ (∀ k, tb y' k = true → fam s nt nm m k) ∧ ∀ j, j < i + 1 → tb was j = true → ∀ k, k < nm → sg s k (rM s m 1) (rM s m 2) → conn s nt (nT s j) (nT s k) → tb y' k = true
    rw [lX9_familyOf_16_s, rd_l25, hm.2.1, if_neg (up_i (by omega) hi)]
    unfold jX9_familyOf_67
    obtain ⟨r, hr, hb⟩ := e_has y (k := i) (by omega)
    rw [hr, bn_s]
    by_cases g : tb y i = true
    · rw [if_neg (fun q => (isb_0 hb).mp q g), e_of0 (by omega), bn_s, e_of1 (by omega), bn_s, e_of2 (by omega), bn_s]
      obtain ⟨wi, wi2, -⟩ := hm.2.2 i hi
      have hsi := fam_sg (i2 i g)
      rw [wi, hsi.1, hsi.2]
      obtain ⟨x, hx, hxb⟩ := e_relatives hw hm wi2 (rM s m 1) (rM s m 2)
      rw [hx, bn_s]
      have hxb' : ∀ k, tb x k = true ↔ k < nm ∧ sg s k (rM s m 1) (rM s m 2) ∧ conn s nt (nT s i) (nT s k) := fun k => by rw [hxb k, ex_self (P := fun k => sg s k (rM s m 1) (rM s m 2) ∧ conn s nt (nT s i) (nT s k))]
      refine ⟨_, rfl, fun k hk => (tb_ort _ _ k).mpr (Or.inl (i1 k hk)), fun k hk => ?_, fun j hj hwj k hk hs hcn => (tb_ort _ _ k).mpr ?_⟩
      · rcases (tb_ort _ _ k).mp hk with h | h
        · exact i2 k h
        · obtain ⟨q1, q2, q3⟩ := (hxb' k).mp h
          exact fam_step (i2 i g) q1 q2 q3
      · by_cases e : j = i
        · subst e
          exact Or.inr ((hxb' k).mpr ⟨hk, hs, hcn⟩)
        · exact Or.inl (i3 j (by omega) hwj k hk hs hcn)
    · rw [if_pos ((isb_0 hb).mpr g)]
      refine ⟨_, rfl, fun k hk => (tb_ort _ _ k).mpr (Or.inl (i1 k hk)), fun k hk => ?_, fun j hj hwj k hk hs hcn => (tb_ort _ _ k).mpr ?_⟩
      · rcases (tb_ort _ _ k).mp hk with h | h
        · exact i2 k h
        · rw [tb_zero] at h; cases h
      · by_cases e : j = i
        · subst e
          exact absurd (i1 j hwj) g
        · exact Or.inl (i3 j (by omega) hwj k hk hs hcn)
  · show lX9_familyOf_16 s k6 (n' + 1) y was (nI nm) = _
    rw [lX9_familyOf_16_s, rd_l25, hm.2.1, if_pos (up_N (by omega))]
    rfl
theorem e_family (hw : WFT s nt) (hm : WFM s nt nm) {m : Nat} (hmm : m < nm) : ∃ x, fX9_familyOf s (nI m) = some x ∧ ∀ k, tb x k = true ↔ fam s nt nm m k := by
  have h16 := hm.1
  unfold fX9_familyOf
  have key : ∀ n was, tb was m = true → (∀ k, tb was k = true → fam s nt nm m k) → nm - cnt was nm + 1 < n → ∃ x, lX9_familyOf_6 s n was 1 = some x ∧ ∀ k, tb x k = true ↔ fam s nt nm m k := by
    intro n
    induction n with
    | zero => intro was _ _ h; omega
    | succ n ih =>
      intro was h1 h2 hn
      rw [lX9_familyOf_6_s, if_neg (by decide)]
      obtain ⟨y, hy, y1, y2, y3⟩ := fam_inner hw hm hmm (fun u2 u3 => lX9_familyOf_6 s n u2 u3) was h2
      rw [hy]
      by_cases e : y = was
      · subst e
        rw [if_pos rfl]
        obtain ⟨n, rfl⟩ : ∃ q, n = q + 1 := ⟨n - 1, by omega⟩
        show ∃ x, lX9_familyOf_6 s (n + 1) y 0 = some x ∧ _
        rw [lX9_familyOf_6_s, if_pos rfl]
        exact ⟨y, rfl, fam_of_closed h1 h2 (fun j k hj hk hs hcn => y3 j (fam_lt hmm (h2 j hj)) hj k hk hs hcn)⟩
      · rw [if_neg e]
        obtain ⟨k, hk1, hk2⟩ : ∃ k, tb y k = true ∧ ¬ tb was k = true := Classical.byContradiction (fun hno => e (eq_bits (fun k => ⟨fun h => Classical.byContradiction (fun q => hno ⟨k, h, q⟩), y1 k⟩)))
        have hlt := cnt_lt y1 (fam_lt hmm (y2 k hk1)) hk1 hk2
        have := cnt_le_N y nm
        exact ih y (y1 m h1) y2 (by omega)
  refine key 5000 _ ((tb_bitt (by omega) m).mpr rfl) (fun k hk => ?_) (by omega)
  rw [tb_bitt (by omega)] at hk
  subst hk
  exact fam_rfl k
theorem e_cfamily (hw : WFT s nt) (hm : WFM s nt nm) (hc : CT s nt t_count t_ifs t_sup) (hd : CMt s nm m_count m_type m_name m_arity m_keys m_defs) {m : Nat} (hmm : m < nm) : ∃ x, fX6_familyOf t_count t_sup m_count m_type m_name m_arity (nI m) = some x ∧ ∀ k, tb x k = true ↔ fam s nt nm m k := by
  have h8 := hw.1
  have h16 := hm.1
  obtain ⟨c1, c2, c3, -⟩ := hd.2 m hmm
  unfold fX6_familyOf
  rw [rd_nI (by omega) (by decide), c2, rd_nI (by omega) (by decide), c3, e_bit, bn_s]
  have key : ∀ n i was, i ≤ nm → nm - i < n → tb was m = true → (∀ k, tb was k = true → fam s nt nm m k) → i < cnt was nm → ∃ x, lX6_familyOf_29 t_count t_sup m_count m_type m_name m_arity n (rM s m 1) (rM s m 2) was (nI i) = some x ∧ ∀ k, tb x k = true ↔ fam s nt nm m k := by
    intro n
    induction n with
    | zero => intro i was _ h; omega
    | succ n ih =>
      intro i was hi hn h1 h2 hcnt
      have hle := cnt_le_N was nm
      rw [lX6_familyOf_29_s, if_neg (by rw [hd.1]; exact up_i (by omega) (by omega))]
      obtain ⟨ts, hts, tsb⟩ := e_typesOf hw hm hd was
      obtain ⟨cs, hcs, csb⟩ := e_connectedWith hw hc ts
      obtain ⟨x, hx, hxb⟩ := e_withSignature hw hm hd (rM s m 1) (rM s m 2) cs
      rw [hts, bn_s, hcs, bn_s, hx, bn_s]
      have hxb' : ∀ k, tb x k = true ↔ k < nm ∧ sg s k (rM s m 1) (rM s m 2) ∧ ∃ j, tb was j = true ∧ conn s nt (nT s j) (nT s k) := by
        intro k
        rw [hxb k, ex_self (P := fun k => sg s k (rM s m 1) (rM s m 2) ∧ tb cs (nT s k) = true), csb]
        constructor
        · rintro ⟨q1, q2, j, q3, q4⟩
          obtain ⟨u, _, q5, rfl⟩ := (tsb j).mp q3
          exact ⟨q1, q2, u, q5, q4⟩
        · rintro ⟨q1, q2, j, q3, q4⟩
          exact ⟨q1, q2, nT s j, (tsb _).mpr ⟨j, fam_lt hmm (h2 j q3), q3, rfl⟩, q4⟩
      have sub : ∀ k, tb was k = true → tb x k = true := fun k hk => (hxb' k).mpr ⟨fam_lt hmm (h2 k hk), fam_sg (h2 k hk), k, hk, conn_rfl (hm.2.2 k (fam_lt hmm (h2 k hk))).2.1⟩
      have sub2 : ∀ k, tb x k = true → fam s nt nm m k := fun k hk => by
        obtain ⟨q1, q2, j, q3, q4⟩ := (hxb' k).mp hk
        exact fam_step (h2 j q3) q1 q2 q4
      by_cases e : x = was
      · rw [if_pos e]
        exact ⟨was, rfl, fam_of_closed h1 h2 (fun j k hj hk hs hcn => by
          rw [← e]
          exact (hxb' k).mpr ⟨hk, hs, j, hj, hcn⟩)⟩
      · rw [if_neg e]
        obtain ⟨k, hk1, hk2⟩ : ∃ k, tb x k = true ∧ ¬ tb was k = true := Classical.byContradiction (fun hno => e (eq_bits (fun k => ⟨fun h => Classical.byContradiction (fun q => hno ⟨k, h, q⟩), sub k⟩)))
        have hlt := cnt_lt sub (fam_lt hmm (sub2 k hk1)) hk1 hk2
        rw [nI_1]
        exact ih (i + 1) x (by omega) (by omega) (sub m h1) sub2 (by omega)
  refine key 5000 0 _ (Nat.zero_le _) (by omega) ((tb_bitt (by omega) m).mpr rfl) (fun k hk => ?_) (cnt_pos hmm ((tb_bitt (by omega) m).mpr rfl))
  rw [tb_bitt (by omega)] at hk
  subst hk
  exact fam_rfl k
end F1
