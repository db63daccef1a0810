/-! hoistedOf of the reference -/
section MZ
variable {s : Nat → Int32} {c n e : Nat} {kp kd : Nat → Int32}
theorem may_unit (hc : c < 8) (hn : n ≤ 5) (hkd : ∀ i, i < n → rC s c (5 + i) = kd i) (k18 : Int32 → Int32 → Int32 → Int32 → Int32 → Option Int32) (x : Int32) {y rem : Int32} {i : Nat} (hi : i < n) {A : Prop} (hA : isb y A) (hrem : isb rem (¬ keptI e kp i)) : ∃ y', jX9_mayHoist_40 s (nI e) kp k18 (nI c) x (nI n) y (nI i) rem = lX9_mayHoist_122 s (nI e) kp k18 5000 (nI c) x (nI n) y' (nI i) 0 ∧ isb y' (A ∧ UR x e kp kd i) := by
  unfold jX9_mayHoist_40 jX9_mayHoist_70 jX9_mayHoist_91 jX9_mayHoist_116 jX9_mayHoist_112 jX9_mayHoist_117
  obtain ⟨r1, hr1, hb1⟩ := e_has x (k := i) (by omega)
  obtain ⟨r2, hr2, hb2⟩ := e_doesCount (s := s) hc (i := i) (by omega)
  rw [hkd i hi] at hb2
  rw [hr1, bn_s]
  by_cases gA : A
  · rw [if_neg (fun q => (isb_0 hA).mp q gA)]
    by_cases g1 : tb x i = true
    · rw [if_neg (fun q => (isb_0 hb1).mp q g1), hr2, bn_s]
      by_cases g2 : cn (kd i)
      · rw [if_neg (fun q => (isb_0 hb2).mp q g2), e_kindOf9 hc (by omega), hkd i hi, bn_s, bn_s]
        by_cases g3 : kd i = 2
        · have g31 : ¬ kd i = 1 := by rw [g3]; decide
          rw [if_pos g3, if_neg g31, if_neg (fun q => (isb_0 hb1).mp q g1)]
          have fin : isb 1 (A ∧ UR x e kp kd i) := isb_t ⟨gA, fun _ => g2, fun _ _ => g1, fun q => absurd q g31⟩
          by_cases g4 : keptI e kp i
          · rw [if_pos ((isb_0 hrem).mpr (fun q => q g4))]
            exact ⟨1, rfl, fin⟩
          · rw [if_neg (fun q => (isb_0 hrem).mp q g4)]
            exact ⟨1, rfl, fin⟩
        · have g31 : kd i = 1 := g2.resolve_right g3
          rw [if_neg g3, if_pos g31, if_neg (fun q => (isb_0 hb1).mp q g1)]
          by_cases g4 : keptI e kp i
          · rw [if_pos ((isb_0 hrem).mpr (fun q => q g4))]
            exact ⟨1, rfl, isb_t ⟨gA, fun _ => g2, fun q => absurd q g3, fun _ q => absurd g4 q⟩⟩
          · rw [if_neg (fun q => (isb_0 hrem).mp q g4)]
            exact ⟨0, rfl, isb_f (fun q => q.2.2.2 g31 g4 g1)⟩
      · rw [if_pos ((isb_0 hb2).mpr g2)]
        exact ⟨0, rfl, isb_f (fun q => g2 (q.2.1 g1))⟩
    · rw [if_pos ((isb_0 hb1).mpr g1), e_kindOf9 hc (by omega), hkd i hi, bn_s, bn_s]
      by_cases g3 : kd i = 2
      · have g31 : ¬ kd i = 1 := by rw [g3]; decide
        rw [if_pos g3, if_neg g31, if_pos ((isb_0 hb1).mpr g1)]
        by_cases g4 : keptI e kp i
        · rw [if_pos ((isb_0 hrem).mpr (fun q => q g4))]
          exact ⟨1, rfl, isb_t ⟨gA, fun q => absurd q g1, fun _ q => absurd g4 q, fun q => absurd q g31⟩⟩
        · rw [if_neg (fun q => (isb_0 hrem).mp q g4)]
          exact ⟨0, rfl, isb_f (fun q => g1 (q.2.2.1 g3 g4))⟩
      · rw [if_neg g3, if_pos ((isb_0 hb1).mpr g1)]
        have fin : isb 1 (A ∧ UR x e kp kd i) := isb_t ⟨gA, fun q => absurd q g1, fun q => absurd q g3, fun _ _ => g1⟩
        by_cases g31 : kd i = 1
        · rw [if_pos g31]
          by_cases g4 : keptI e kp i
          · rw [if_pos ((isb_0 hrem).mpr (fun q => q g4))]
            exact ⟨1, rfl, fin⟩
          · rw [if_neg (fun q => (isb_0 hrem).mp q g4)]
            exact ⟨1, rfl, fin⟩
        · rw [if_neg g31]
          exact ⟨1, rfl, fin⟩
  · rw [if_pos ((isb_0 hA).mpr gA)]
    exact ⟨0, rfl, isb_f (fun q => gA q.1)⟩
theorem e_mayHoist (hc : c < 8) (hn : n ≤ 5) (he : e ≤ 5) (hu : KU e kp) (h4 : rC s c 4 = nI n) (hkd : ∀ i, i < n → rC s c (5 + i) = kd i) (x : Int32) : ∃ r, fX9_mayHoist s (nI e) kp (nI c) x = some r ∧ isb r (MH x n e kp kd) := by
  unfold fX9_mayHoist
  rw [e_at4, bn_s, rd_C hc (by decide), h4]
  obtain ⟨y, hy, hyb⟩ := inv_loop (g := fun n' y i => lX9_mayHoist_18 s (nI e) kp n' (nI c) x (nI n) y i) (N := n) (fun i y => isb y (∀ i', i' < i → UR x e kp kd i' ∧ ∀ j, j < i' → PR x e kp kd j i')) (K := rb) (fun n' i y hi hI => by
    show ∃ y', lX9_mayHoist_18 s (nI e) kp (n' + 1) (nI c) x (nI n) y (nI i) = lX9_mayHoist_18 s (nI e) kp n' (nI c) x (nI n) y' (nI i + 1) ∧ isb y' (∀ i', i' < i + 1 → UR x e kp kd i' ∧ ∀ j, j < i' → PR x e kp kd j i')
    have hI : isb y (∀ i', i' < i → UR x e kp kd i' ∧ ∀ j, j < i' → PR x e kp kd j i') := hI
    rw [lX9_mayHoist_18_s, if_neg (up_i (by omega) hi)]
    obtain ⟨r, hr, hl⟩ := e_entryOf he kp (nI i)
    rw [hr, bn_s]
    have st : ∃ rem, (if r = -9 then jX9_mayHoist_40 s (nI e) kp (fun u1 u2 u3 u4 u5 => lX9_mayHoist_18 s (nI e) kp n' u1 u2 u3 u4 u5) (nI c) x (nI n) y (nI i) 1 else jX9_mayHoist_40 s (nI e) kp (fun u1 u2 u3 u4 u5 => lX9_mayHoist_18 s (nI e) kp n' u1 u2 u3 u4 u5) (nI c) x (nI n) y (nI i) 0) = jX9_mayHoist_40 s (nI e) kp (fun u1 u2 u3 u4 u5 => lX9_mayHoist_18 s (nI e) kp n' u1 u2 u3 u4 u5) (nI c) x (nI n) y (nI i) rem ∧ isb rem (¬ keptI e kp i) := by
      by_cases g : r = -9
      · rw [if_pos g]
        exact ⟨1, rfl, isb_t (fun ⟨y, h1, h2⟩ => (lst_none (by omega) hl).mp g y h1 h2)⟩
      · rw [if_neg g]
        exact ⟨0, rfl, isb_f (fun q => g ((lst_none (by omega) hl).mpr (fun y h1 h2 => q ⟨y, h1, h2⟩)))⟩
    obtain ⟨rem, e1, hrem⟩ := st
    rw [e1]
    obtain ⟨y1, e2, hy1⟩ := may_unit (s := s) (e := e) (kp := kp) hc hn hkd (fun u1 u2 u3 u4 u5 => lX9_mayHoist_18 s (nI e) kp n' u1 u2 u3 u4 u5) x hi hI hrem
    rw [e2]
    obtain ⟨y2, e3, hy2⟩ := may_inner (s := s) hc hn he hu hkd (fun u1 u2 u3 u4 u5 => lX9_mayHoist_18 s (nI e) kp n' u1 u2 u3 u4 u5) x hi hy1
    rw [e3]
    refine ⟨y2, rfl, isb_iff hy2 ⟨fun h => all_succ.mpr ⟨h.1.1, h.1.2, h.2⟩, fun h => ?_⟩⟩
    have h := all_succ.mp h
    exact ⟨⟨h.1, h.2.1⟩, h.2.2⟩) (fun n' y hI => by
    show lX9_mayHoist_18 s (nI e) kp (n' + 1) (nI c) x (nI n) y (nI n) = rb y
    rw [lX9_mayHoist_18_s, if_pos (up_N (by omega))]) 5000 0 1 (Nat.zero_le _) (by omega) (isb_t (fun i h => absurd h (Nat.not_lt_zero i)))
  have hyb : isb y (MH x n e kp kd) := hyb
  exact ⟨y, hy.trans (isb_rb hyb), hyb⟩
theorem two_n (hn : n ≤ 5) : (1 : Int32) <<< (nI n &&& 31) = nI (2 ^ n) ∧ 2 ^ n ≤ 32 := by
  have h : ∀ n, n < 6 → (1 : Int32) <<< (nI n &&& 31) = nI (2 ^ n) ∧ 2 ^ n ≤ 32 := by decide +kernel
  exact h n (by omega)
/-- all that can be hoisted -/
theorem e_hoistedOf (hc : c < 8) (hn : n ≤ 5) (he : e ≤ 5) (hu : KU e kp) (h4 : rC s c 4 = nI n) (hkd : ∀ i, i < n → rC s c (5 + i) = kd i) {D : Nat} (hD : VH n e kp kd D) : ∃ b, fX9_hoistedOf s (nI e) kp (nI c) = some (nI b) ∧ MinR (VH n e kp kd) (fun i => cnt (nI i) 16) b := by
  obtain ⟨t1, t2⟩ := two_n hn
  unfold fX9_hoistedOf
  refine min_none (g := fun n' b i => lX9_hoistedOf_5 s (nI e) kp n' (nI c) b i) (V := VH n e kp kd) (N := 2 ^ n) (D := D) (by omega) hD (fun i h => h.1) (fun n' i hi => ?_) (fun n' i b hi hb => ?_) (fun n' b => ?_)
  · show (_ → lX9_hoistedOf_5 s (nI e) kp (n' + 1) (nI c) (-9) (nI i) = lX9_hoistedOf_5 s (nI e) kp n' (nI c) (nI i) (nI i + 1)) ∧ (_ → lX9_hoistedOf_5 s (nI e) kp (n' + 1) (nI c) (-9) (nI i) = lX9_hoistedOf_5 s (nI e) kp n' (nI c) (-9) (nI i + 1))
    rw [lX9_hoistedOf_5_s, e_at4, bn_s, rd_C hc (by decide), h4, t1, if_neg (up_i (by omega) hi), if_pos rfl]
    unfold jX9_hoistedOf_39 jX9_hoistedOf_44 jX9_hoistedOf_64 jX9_hoistedOf_65
    rw [if_neg (by decide)]
    obtain ⟨r, hr, hb⟩ := e_mayHoist hc hn he hu h4 hkd (nI i)
    rw [hr, bn_s]
    by_cases g : MH (nI i) n e kp kd
    · rw [if_neg (fun q => (isb_0 hb).mp q g)]
      exact ⟨fun _ => rfl, fun h => absurd ⟨hi, g⟩ h⟩
    · rw [if_pos ((isb_0 hb).mpr g)]
      exact ⟨fun h => absurd h.2 g, fun _ => rfl⟩
  · show (_ → lX9_hoistedOf_5 s (nI e) kp (n' + 1) (nI c) (nI b) (nI i) = lX9_hoistedOf_5 s (nI e) kp n' (nI c) (nI i) (nI i + 1)) ∧ (_ → lX9_hoistedOf_5 s (nI e) kp (n' + 1) (nI c) (nI b) (nI i) = lX9_hoistedOf_5 s (nI e) kp n' (nI c) (nI b) (nI i + 1))
    have hb1 := hb.1
    have c1 := cnt_le_N (nI i) 16
    have c2 := cnt_le_N (nI b) 16
    rw [lX9_hoistedOf_5_s, e_at4, bn_s, rd_C hc (by decide), h4, t1, if_neg (up_i (by omega) hi), if_neg (nI_ne9 (by omega)), e_ones, bn_s, e_ones, bn_s]
    unfold jX9_hoistedOf_39 jX9_hoistedOf_44 jX9_hoistedOf_64 jX9_hoistedOf_65
    by_cases g3 : cnt (nI i) 16 < cnt (nI b) 16
    · rw [if_neg (nI_ge g3 (by omega)), if_neg (by decide)]
      obtain ⟨r, hr, hbb⟩ := e_mayHoist hc hn he hu h4 hkd (nI i)
      rw [hr, bn_s]
      by_cases g : MH (nI i) n e kp kd
      · rw [if_neg (fun q => (isb_0 hbb).mp q g)]
        exact ⟨fun _ => rfl, fun h => absurd ⟨⟨hi, g⟩, g3⟩ h⟩
      · rw [if_pos ((isb_0 hbb).mpr g)]
        exact ⟨fun h => absurd h.1.2 g, fun _ => rfl⟩
    · rw [if_pos (nI_le (by omega) (by omega)), if_pos rfl]
      exact ⟨fun h => absurd h.2 g3, fun _ => rfl⟩
  · show lX9_hoistedOf_5 s (nI e) kp (n' + 1) (nI c) (nI b) (nI (2 ^ n)) = some (nI b)
    rw [lX9_hoistedOf_5_s, e_at4, bn_s, rd_C hc (by decide), h4, t1, if_pos (up_N (by omega))]
end MZ
