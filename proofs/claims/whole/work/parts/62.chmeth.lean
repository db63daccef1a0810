/-! the methods of the family get the new list -/
section CM9
variable {s : Nat → Int32} {nt nm m e : Nat} {m_count : Int32} {m_type m_name m_arity m_keys m_defs d_keys d_defs ek ed : Nat → Int32}
def MR (s' : Nat → Int32) (o e : Nat) (ek ed : Nat → Int32) : Prop := rM s' o 2 = nI e ∧ ∀ x, x < e → rM s' o (3 + x) = ek x ∧ rM s' o (8 + x) = ed x
theorem e_change {o : Nat} (ho : o < 16) (he : e ≤ 5) (ek ed : Nat → Int32) : ∃ s', fX9_change s (nI e) ek ed (nI o) = some s' ∧ (∀ j, (j < 26 + 13 * o + 2 ∨ 26 + 13 * o + 13 ≤ j) → s' j = s j) ∧ MR s' o e ek ed := by
  unfold fX9_change
  have i2 : ((26 : Int32) + 13 * nI o) + 2 = nI (26 + 13 * o + 2) := ixM o 2
  have i3 : ∀ i, (((26 : Int32) + 13 * nI o) + 3) + nI i = nI (26 + 13 * o + (3 + i)) := fun i => by
    rw [show ((26 : Int32) + 13 * nI o) + 3 = nI (26 + 13 * o + 3) from ixM o 3, nI_add, Nat.add_assoc]
  have i8 : ∀ i, (((26 : Int32) + 13 * nI o) + 8) + nI i = nI (26 + 13 * o + (8 + i)) := fun i => by
    rw [show ((26 : Int32) + 13 * nI o) + 8 = nI (26 + 13 * o + 8) from ixM o 8, nI_add, Nat.add_assoc]
  rw [i2, wr_nI (by omega) (by decide)]
  obtain ⟨u, hu, u1, u2⟩ := inv_loop (g := fun n' (u : Nat → Int32) i => lX9_change_22 (nI e) ek ed n' u (26 + 13 * nI o) i) (N := 5) (fun i u => (∀ j, (j < 26 + 13 * o + 3 ∨ 26 + 13 * o + 13 ≤ j) → u j = upd s (26 + 13 * o + 2) (nI e) j) ∧ ∀ x, x < i → x < e → rM u o (3 + x) = ek x ∧ rM u o (8 + x) = ed x) (K := fun u => some u) (fun n' i u hi hI => by
    obtain ⟨j1, j2⟩ := hI
    show ∃ u', lX9_change_22 (nI e) ek ed (n' + 1) u (26 + 13 * nI o) (nI i) = lX9_change_22 (nI e) ek ed n' u' (26 + 13 * nI o) (nI i + 1) ∧ (∀ j, (j < 26 + 13 * o + 3 ∨ 26 + 13 * o + 13 ≤ j) → u' j = upd s (26 + 13 * o + 2) (nI e) j) ∧ ∀ x, x < i + 1 → x < e → rM u' o (3 + x) = ek x ∧ rM u' o (8 + x) = ed x
    have post : ∀ a1 a2 : Int32, (i < e → a1 = ek i ∧ a2 = ed i) → (∀ j, (j < 26 + 13 * o + 3 ∨ 26 + 13 * o + 13 ≤ j) → upd (upd u (26 + 13 * o + (3 + i)) a1) (26 + 13 * o + (8 + i)) a2 j = upd s (26 + 13 * o + 2) (nI e) j) ∧ ∀ x, x < i + 1 → x < e → rM (upd (upd u (26 + 13 * o + (3 + i)) a1) (26 + 13 * o + (8 + i)) a2) o (3 + x) = ek x ∧ rM (upd (upd u (26 + 13 * o + (3 + i)) a1) (26 + 13 * o + (8 + i)) a2) o (8 + x) = ed x := by
      intro a1 a2 ha
      refine ⟨fun j hj => ?_, fun x hx hxe => ?_⟩
      · rw [upd_n (i := 26 + 13 * o + (8 + i)) (by omega), upd_n (i := 26 + 13 * o + (3 + i)) (by omega)]
        exact j1 j hj
      · unfold rM
        by_cases z : x = i
        · subst z
          obtain ⟨q1, q2⟩ := ha hxe
          refine ⟨?_, ?_⟩
          · rw [upd_n (by omega), upd_s, q1]
          · rw [upd_s, q2]
        · obtain ⟨q1, q2⟩ := j2 x (by omega) hxe
          refine ⟨?_, ?_⟩
          · rw [upd_n (by omega), upd_n (by omega)]
            exact q1
          · rw [upd_n (by omega), upd_n (by omega)]
            exact q2
    rw [lX9_change_22_s, if_neg (show ¬ (5 : Int32) ≤ nI i from up_i (N := 5) (by decide) hi)]
    unfold jX9_change_54 jX9_change_83
    by_cases g : i < e
    · rw [if_neg (up_i (by omega) g), rd_nI (by omega) (by decide), i3, wr_nI (by omega) (by decide), if_neg (up_i (by omega) g), rd_nI (by omega) (by decide), i8, wr_nI (by omega) (by decide)]
      exact ⟨_, rfl, post _ _ (fun _ => ⟨rfl, rfl⟩)⟩
    · rw [if_pos (nI_le (by omega) (by omega)), i3, wr_nI (by omega) (by decide), if_pos (nI_le (by omega) (by omega)), i8, wr_nI (by omega) (by decide)]
      exact ⟨_, rfl, post _ _ (fun q => absurd q g)⟩) (fun n' u hI => by
    show lX9_change_22 (nI e) ek ed (n' + 1) u (26 + 13 * nI o) (nI 5) = some u
    rw [lX9_change_22_s, if_pos (by decide)]) 5000 0 (upd s (26 + 13 * o + 2) (nI e)) (Nat.zero_le _) (by omega) ⟨fun _ _ => rfl, fun x h => absurd h (Nat.not_lt_zero x)⟩
  refine ⟨u, hu, fun j hj => ?_, ?_, fun x hx => u2 x (by omega) hx⟩
  · rw [u1 j (by omega), upd_n (by omega)]
  · unfold rM
    rw [u1 _ (by omega), upd_s]
theorem ref_change_all (hnm : nm ≤ 16) (h25 : s 25 = nI nm) (he : e ≤ 5) (ek ed : Nat → Int32) (f : Int32) (kp past : Nat → Int32) (p ch r : Int32) (kz nz : Nat → Int32) : ∃ u, lX9_applyChange_122 (nI e) kp ek ed 5000 s past p ch kz nz f r 0 = some (r, u, past, p, -9, kz, nz) ∧ (∀ j, (j < 26 ∨ 234 ≤ j) → u j = s j) ∧ (∀ o, o < nm → rM u o 0 = rM s o 0 ∧ rM u o 1 = rM s o 1) ∧ (∀ o, o < nm → tb f o = true → MR u o e ek ed) ∧ ∀ o, o < nm → ¬ tb f o = true → ∀ w, w < 13 → rM u o w = rM s o w := by
  obtain ⟨u, hu, u1, u2, u3, u4⟩ := inv_loop (g := fun n' (u : Nat → Int32) i => lX9_applyChange_122 (nI e) kp ek ed n' u past p ch kz nz f r i) (N := nm) (fun i u => (∀ j, (j < 26 ∨ 234 ≤ j) → u j = s j) ∧ (∀ o, o < nm → rM u o 0 = rM s o 0 ∧ rM u o 1 = rM s o 1) ∧ (∀ o, o < i → tb f o = true → MR u o e ek ed) ∧ ∀ o, o < nm → ¬ tb f o = true → ∀ w, w < 13 → rM u o w = rM s o w) (K := fun u => some (r, u, past, p, -9, kz, nz)) (fun n' i u hi hI => by
    obtain ⟨i1, i2, i3, i4⟩ := hI
    show ∃ u', lX9_applyChange_122 (nI e) kp ek ed (n' + 1) u past p ch kz nz f r (nI i) = lX9_applyChange_122 (nI e) kp ek ed n' u' past p ch kz nz f r (nI i + 1) ∧ (∀ j, (j < 26 ∨ 234 ≤ j) → u' j = s j) ∧ (∀ o, o < nm → rM u' o 0 = rM s o 0 ∧ rM u' o 1 = rM s o 1) ∧ (∀ o, o < i + 1 → tb f o = true → MR u' o e ek ed) ∧ ∀ o, o < nm → ¬ tb f o = true → ∀ w, w < 13 → rM u' o w = rM s o w
    rw [lX9_applyChange_122_s, rd_l25, i1 25 (by omega), h25, if_neg (up_i (by omega) hi)]
    obtain ⟨r1, hr1, hb1⟩ := e_has f (k := i) (by omega)
    rw [hr1, bn_s]
    by_cases g : tb f i = true
    · rw [if_neg (fun q => (isb_0 hb1).mp q g)]
      obtain ⟨u', e1, e2, e3⟩ := e_change (s := u) (o := i) (by omega) he ek ed
      rw [e1, bn_s]
      refine ⟨u', rfl, fun j hj => by rw [e2 j (by omega)]; exact i1 j hj, fun o ho => ?_, fun o ho ht => ?_, fun o ho ht w hw => ?_⟩
      · have a0 : rM u' o 0 = rM u o 0 := e2 _ (by omega)
        have a1 : rM u' o 1 = rM u o 1 := e2 _ (by omega)
        rw [a0, a1]
        exact i2 o ho
      · by_cases z : o = i
        · rw [z]
          exact e3
        · obtain ⟨q1, q2⟩ := i3 o (by omega) ht
          have a : ∀ w, w < 13 → rM u' o w = rM u o w := fun w hw => e2 _ (by omega)
          refine ⟨by rw [a 2 (by decide)]; exact q1, fun x hx => ?_⟩
          rw [a (3 + x) (by omega), a (8 + x) (by omega)]
          exact q2 x hx
      · have z : o ≠ i := fun z => ht (by rw [z]; exact g)
        have a : rM u' o w = rM u o w := e2 _ (by omega)
        rw [a]
        exact i4 o ho ht w hw
    · rw [if_pos ((isb_0 hb1).mpr g)]
      refine ⟨u, rfl, i1, i2, fun o ho ht => ?_, i4⟩
      by_cases z : o = i
      · subst z
        exact absurd ht g
      · exact i3 o (by omega) ht) (fun n' u hI => by
    show lX9_applyChange_122 (nI e) kp ek ed (n' + 1) u past p ch kz nz f r (nI nm) = some (r, u, past, p, -9, kz, nz)
    rw [lX9_applyChange_122_s, rd_l25, hI.1 25 (by omega), h25, if_pos (up_N (by omega))]) 5000 0 s (Nat.zero_le _) (by omega) ⟨fun _ _ => rfl, fun _ _ => ⟨rfl, rfl⟩, fun o h => absurd h (Nat.not_lt_zero o), fun _ _ _ _ _ => rfl⟩
  exact ⟨u, hu, u1, u2, u3, u4⟩
theorem cls_change_all (hnm : nm ≤ 16) (hmc : m_count = nI nm) (he : e ≤ 5) {f : Int32} (hent : ∀ x, x < e → d_keys x = ek x ∧ d_defs x = ed x) (m_arity m_keys m_defs : Nat → Int32) : ∃ ar ky df, fX5_replaceParameters m_count m_arity m_keys m_defs f (nI e) d_keys d_defs = some (ar, ky, df) ∧ (∀ o, o < nm → tb f o = true → ar o = nI e ∧ ∀ x, x < e → ky (o * 5 + x) = ek x ∧ df (o * 5 + x) = ed x) ∧ ∀ o, o < nm → ¬ tb f o = true → ar o = m_arity o ∧ ∀ x, x < 5 → ky (o * 5 + x) = m_keys (o * 5 + x) ∧ df (o * 5 + x) = m_defs (o * 5 + x) := by
  have inner : ∀ (k2 : (Nat → Int32) → (Nat → Int32) → (Nat → Int32) → Int32 → Option ((Nat → Int32) × (Nat → Int32) × (Nat → Int32))) (o : Nat) (ar ky df : Nat → Int32), o < 16 → ∃ ky' df', lX5_replaceParameters_33 m_count f (nI e) d_keys d_defs k2 5000 ar ky df (nI o) 0 = k2 ar ky' df' (nI o + 1) ∧ (∀ j, (j < o * 5 ∨ o * 5 + 5 ≤ j) → ky' j = ky j ∧ df' j = df j) ∧ ∀ x, x < e → ky' (o * 5 + x) = ek x ∧ df' (o * 5 + x) = ed x := by
    intro k2 o ar ky df ho
    obtain ⟨y, hy, y1, y2⟩ := inv_loop (g := fun n' (y : (Nat → Int32) × (Nat → Int32)) i => lX5_replaceParameters_33 m_count f (nI e) d_keys d_defs k2 n' ar y.1 y.2 (nI o) i) (N := e) (fun i y => (∀ j, (j < o * 5 ∨ o * 5 + 5 ≤ j) → y.1 j = ky j ∧ y.2 j = df j) ∧ ∀ x, x < i → y.1 (o * 5 + x) = ek x ∧ y.2 (o * 5 + x) = ed x) (K := fun y => k2 ar y.1 y.2 (nI o + 1)) (fun n' i y hi hI => by
      obtain ⟨a1, a2⟩ := y
      obtain ⟨i1, i2⟩ := hI
      have i1 : ∀ j, (j < o * 5 ∨ o * 5 + 5 ≤ j) → a1 j = ky j ∧ a2 j = df j := i1
      have i2 : ∀ x, x < i → a1 (o * 5 + x) = ek x ∧ a2 (o * 5 + x) = ed x := i2
      show ∃ y' : (Nat → Int32) × (Nat → Int32), lX5_replaceParameters_33 m_count f (nI e) d_keys d_defs k2 (n' + 1) ar a1 a2 (nI o) (nI i) = lX5_replaceParameters_33 m_count f (nI e) d_keys d_defs k2 n' ar y'.1 y'.2 (nI o) (nI i + 1) ∧ (∀ j, (j < o * 5 ∨ o * 5 + 5 ≤ j) → y'.1 j = ky j ∧ y'.2 j = df j) ∧ ∀ x, x < i + 1 → y'.1 (o * 5 + x) = ek x ∧ y'.2 (o * 5 + x) = ed x
      rw [lX5_replaceParameters_33_s, if_neg (up_i (by omega) hi), rd_nI (by omega) (by decide), rd_nI (by omega) (by decide)]
      unfold fX5_putParameter
      rw [ix5, wr_nI (by omega) (by decide), wr_nI (by omega) (by decide)]
      refine ⟨(upd a1 (o * 5 + i) (d_keys i), upd a2 (o * 5 + i) (d_defs i)), rfl, fun j hj => ?_, fun x hx => ?_⟩
      · show upd a1 _ _ j = _ ∧ upd a2 _ _ j = _
        rw [upd_n (by omega), upd_n (by omega)]
        exact i1 j hj
      · show upd a1 _ _ (o * 5 + x) = _ ∧ upd a2 _ _ (o * 5 + x) = _
        by_cases z : x = i
        · subst z
          rw [upd_s, upd_s]
          exact hent x hi
        · rw [upd_n (by omega), upd_n (by omega)]
          exact i2 x (by omega)) (fun n' y hI => by
      show lX5_replaceParameters_33 m_count f (nI e) d_keys d_defs k2 (n' + 1) ar y.1 y.2 (nI o) (nI e) = _
      rw [lX5_replaceParameters_33_s, if_pos (up_N (by omega))]) 5000 0 (ky, df) (Nat.zero_le _) (by omega) ⟨fun _ _ => ⟨rfl, rfl⟩, fun x h => absurd h (Nat.not_lt_zero x)⟩
    exact ⟨y.1, y.2, hy, y1, y2⟩
  unfold fX5_replaceParameters
  obtain ⟨y, hy, y1, y2⟩ := inv_loop (g := fun n' (y : (Nat → Int32) × (Nat → Int32) × (Nat → Int32)) i => lX5_replaceParameters_2 m_count f (nI e) d_keys d_defs n' y.1 y.2.1 y.2.2 i) (N := nm) (fun i y => (∀ o, o < nm → o < i → tb f o = true → y.1 o = nI e ∧ ∀ x, x < e → y.2.1 (o * 5 + x) = ek x ∧ y.2.2 (o * 5 + x) = ed x) ∧ ∀ o, o < nm → (¬ tb f o = true ∨ i ≤ o) → y.1 o = m_arity o ∧ ∀ x, x < 5 → y.2.1 (o * 5 + x) = m_keys (o * 5 + x) ∧ y.2.2 (o * 5 + x) = m_defs (o * 5 + x)) (K := fun y => some y) (fun n' i y hi hI => by
    obtain ⟨a1, a2, a3⟩ := y
    obtain ⟨i1, i2⟩ := hI
    have i1 : ∀ o, o < nm → o < i → tb f o = true → a1 o = nI e ∧ ∀ x, x < e → a2 (o * 5 + x) = ek x ∧ a3 (o * 5 + x) = ed x := i1
    have i2 : ∀ o, o < nm → (¬ tb f o = true ∨ i ≤ o) → a1 o = m_arity o ∧ ∀ x, x < 5 → a2 (o * 5 + x) = m_keys (o * 5 + x) ∧ a3 (o * 5 + x) = m_defs (o * 5 + x) := i2
    show ∃ y' : (Nat → Int32) × (Nat → Int32) × (Nat → Int32), lX5_replaceParameters_2 m_count f (nI e) d_keys d_defs (n' + 1) a1 a2 a3 (nI i) = lX5_replaceParameters_2 m_count f (nI e) d_keys d_defs n' y'.1 y'.2.1 y'.2.2 (nI i + 1) ∧ (∀ o, o < nm → o < i + 1 → tb f o = true → y'.1 o = nI e ∧ ∀ x, x < e → y'.2.1 (o * 5 + x) = ek x ∧ y'.2.2 (o * 5 + x) = ed x) ∧ ∀ o, o < nm → (¬ tb f o = true ∨ i + 1 ≤ o) → y'.1 o = m_arity o ∧ ∀ x, x < 5 → y'.2.1 (o * 5 + x) = m_keys (o * 5 + x) ∧ y'.2.2 (o * 5 + x) = m_defs (o * 5 + x)
    rw [lX5_replaceParameters_2_s, if_neg (by rw [hmc]; exact up_i (by omega) hi)]
    obtain ⟨r1, hr1, hb1⟩ := e_contains f (k := i) (by omega)
    rw [hr1, bn_s]
    by_cases g : tb f i = true
    · rw [if_neg (fun q => (isb_0 hb1).mp q g), wr_nI (by omega) (by decide)]
      obtain ⟨ky', df', e1, e2, e3⟩ := inner (fun w1 w2 w3 u2 => lX5_replaceParameters_2 m_count f (nI e) d_keys d_defs n' w1 w2 w3 u2) i (upd a1 i (nI e)) a2 a3 (by omega)
      rw [e1]
      refine ⟨(upd a1 i (nI e), ky', df'), rfl, fun o ho hoi ht => ?_, fun o ho h => ?_⟩
      · show upd a1 i _ o = _ ∧ ∀ x, x < e → ky' (o * 5 + x) = ek x ∧ df' (o * 5 + x) = ed x
        by_cases z : o = i
        · subst z
          rw [upd_s]
          exact ⟨rfl, e3⟩
        · rw [upd_n z]
          obtain ⟨q1, q2⟩ := i1 o ho (by omega) ht
          refine ⟨q1, fun x hx => ?_⟩
          rw [(e2 _ (by omega)).1, (e2 _ (by omega)).2]
          exact q2 x hx
      · have z : o ≠ i := by
          rcases h with q | q
          · exact fun z => q (by rw [z]; exact g)
          · omega
        show upd a1 i _ o = _ ∧ ∀ x, x < 5 → ky' (o * 5 + x) = _ ∧ df' (o * 5 + x) = _
        rw [upd_n z]
        obtain ⟨q1, q2⟩ := i2 o ho (h.elim Or.inl (fun q => Or.inr (by omega)))
        refine ⟨q1, fun x hx => ?_⟩
        rw [(e2 _ (by omega)).1, (e2 _ (by omega)).2]
        exact q2 x hx
    · rw [if_pos ((isb_0 hb1).mpr g)]
      refine ⟨(a1, a2, a3), rfl, fun o ho hoi ht => ?_, fun o ho h => i2 o ho (h.elim Or.inl (fun q => Or.inr (by omega)))⟩
      by_cases z : o = i
      · subst z
        exact absurd ht g
      · exact i1 o ho (by omega) ht) (fun n' y hI => by
    show lX5_replaceParameters_2 m_count f (nI e) d_keys d_defs (n' + 1) y.1 y.2.1 y.2.2 (nI nm) = some y
    rw [lX5_replaceParameters_2_s, if_pos (by rw [hmc]; exact up_N (by omega))]) 5000 0 (m_arity, m_keys, m_defs) (Nat.zero_le _) (by omega) ⟨fun o _ h => absurd h (Nat.not_lt_zero o), fun _ _ _ => ⟨rfl, fun _ _ => ⟨rfl, rfl⟩⟩⟩
  exact ⟨y.1, y.2.1, y.2.2, hy, fun o ho ht => y1 o ho ho ht, fun o ho h => y2 o ho (Or.inl h)⟩
end CM9
