/-! one call rewritten: the class -/
section R8
variable {c n b e t0 : Nat} {kp ek ed kd vl d_src d_keys d_defs : Nat → Int32}
theorem cl_hoist (hc : c < 8) (hn : n ≤ 5) (hroom : t0 + cnt (nI b) n ≤ 8) {ac : Nat → Int32} (hac : ac c = nI n) (tc K V T : Nat → Int32) (htc : tc c = nI t0) (hK : ∀ i, i < n → K (c * 5 + i) = kd i ∧ V (c * 5 + i) = vl i) : ∃ tc' K' V' T', fX0_hoist ac tc K V T (nI c) (nI b) = some (tc', K', V', T') ∧ (∀ j, j ≠ c → tc' j = tc j) ∧ tc' c = nI (t0 + cnt (nI b) n) ∧ (∀ j, (j < c * 5 ∨ c * 5 + 5 ≤ j) → K' j = K j ∧ V' j = V j) ∧ (∀ i, i < n → K' (c * 5 + i) = hkd b kd i ∧ V' (c * 5 + i) = hvl b t0 vl i) ∧ (∀ j, (j < c * 8 + t0 ∨ c * 8 + 8 ≤ j) → T' j = T j) ∧ ∀ i, i < n → tb (nI b) i = true → T' (c * 8 + (t0 + cnt (nI b) i)) = kd i := by
  unfold fX0_hoist
  obtain ⟨y, hy, y1, y2, y3, y4, y5, y6, y7⟩ := inv_loop (g := fun n' (y : (Nat → Int32) × (Nat → Int32) × (Nat → Int32) × (Nat → Int32)) i => lX0_hoist_2 ac n' y.1 y.2.1 y.2.2.1 y.2.2.2 (nI c) (nI b) i) (N := n) (fun i y => (∀ j, j ≠ c → y.1 j = tc j) ∧ y.1 c = nI (t0 + cnt (nI b) i) ∧ (∀ j, (j < c * 5 ∨ c * 5 + 5 ≤ j) → y.2.1 j = K j ∧ y.2.2.1 j = V j) ∧ (∀ i', i' < i → y.2.1 (c * 5 + i') = hkd b kd i' ∧ y.2.2.1 (c * 5 + i') = hvl b t0 vl i') ∧ (∀ i', i ≤ i' → i' < n → y.2.1 (c * 5 + i') = kd i' ∧ y.2.2.1 (c * 5 + i') = vl i') ∧ (∀ j, (j < c * 8 + t0 ∨ c * 8 + 8 ≤ j) → y.2.2.2 j = T j) ∧ ∀ i', i' < i → tb (nI b) i' = true → y.2.2.2 (c * 8 + (t0 + cnt (nI b) i')) = kd i') (K := fun y => some y) (fun n' i y hi hI => by
    obtain ⟨a1, a2, a3, a4⟩ := y
    obtain ⟨i1, i2, i3, i4, i5, i6, i7⟩ := hI
    have i1 : ∀ j, j ≠ c → a1 j = tc j := i1
    have i2 : a1 c = nI (t0 + cnt (nI b) i) := i2
    have i3 : ∀ j, (j < c * 5 ∨ c * 5 + 5 ≤ j) → a2 j = K j ∧ a3 j = V j := i3
    have i4 : ∀ i', i' < i → a2 (c * 5 + i') = hkd b kd i' ∧ a3 (c * 5 + i') = hvl b t0 vl i' := i4
    have i5 : ∀ i', i ≤ i' → i' < n → a2 (c * 5 + i') = kd i' ∧ a3 (c * 5 + i') = vl i' := i5
    have i6 : ∀ j, (j < c * 8 + t0 ∨ c * 8 + 8 ≤ j) → a4 j = T j := i6
    have i7 : ∀ i', i' < i → tb (nI b) i' = true → a4 (c * 8 + (t0 + cnt (nI b) i')) = kd i' := i7
    show ∃ y' : (Nat → Int32) × (Nat → Int32) × (Nat → Int32) × (Nat → Int32), lX0_hoist_2 ac (n' + 1) a1 a2 a3 a4 (nI c) (nI b) (nI i) = lX0_hoist_2 ac n' y'.1 y'.2.1 y'.2.2.1 y'.2.2.2 (nI c) (nI b) (nI i + 1) ∧ (∀ j, j ≠ c → y'.1 j = tc j) ∧ y'.1 c = nI (t0 + cnt (nI b) (i + 1)) ∧ (∀ j, (j < c * 5 ∨ c * 5 + 5 ≤ j) → y'.2.1 j = K j ∧ y'.2.2.1 j = V j) ∧ (∀ i', i' < i + 1 → y'.2.1 (c * 5 + i') = hkd b kd i' ∧ y'.2.2.1 (c * 5 + i') = hvl b t0 vl i') ∧ (∀ i', i + 1 ≤ i' → i' < n → y'.2.1 (c * 5 + i') = kd i' ∧ y'.2.2.1 (c * 5 + i') = vl i') ∧ (∀ j, (j < c * 8 + t0 ∨ c * 8 + 8 ≤ j) → y'.2.2.2 j = T j) ∧ ∀ i', i' < i + 1 → tb (nI b) i' = true → y'.2.2.2 (c * 8 + (t0 + cnt (nI b) i')) = kd i'
    have mono := cnt_mono (nI b) (i := i + 1) (n := n) hi
    rw [lX0_hoist_2_s, rd_nI hc (by decide), hac, if_neg (up_i (by omega) hi)]
    obtain ⟨r, hr, hb⟩ := e_contains (nI b) (k := i) (by omega)
    rw [hr, bn_s]
    by_cases g : tb (nI b) i = true
    · have hs := cnt_s g
      have ek : fX0_kindOf a2 (nI c) (nI i) = some (kd i) := by
        unfold fX0_kindOf
        rw [ix5, rd_nI (by omega) (by decide), (i5 i (Nat.le_refl i) hi).1]
      rw [if_neg (fun q => (isb_0 hb).mp q g), rd_nI hc (by decide), i2, ek, bn_s, ix8, wr_nI (by omega) (by decide)]
      unfold fX0_putArgument
      rw [ix5, wr_nI (by omega) (by decide), wr_nI (by omega) (by decide), bn2_s, rd_nI hc (by decide), i2, wr_nI hc (by decide), nI_1]
      refine ⟨(upd a1 c (nI (t0 + cnt (nI b) i + 1)), upd a2 (c * 5 + i) 3, upd a3 (c * 5 + i) (nI (t0 + cnt (nI b) i)), upd a4 (c * 8 + (t0 + cnt (nI b) i)) (kd i)), rfl, fun j hj => ?_, ?_, fun j hj => ?_, fun i' hi' => ?_, fun i' h1 h2 => ?_, fun j hj => ?_, fun i' hi' ht => ?_⟩
      · show upd a1 c _ j = tc j
        rw [upd_n hj]
        exact i1 j hj
      · show upd a1 c _ c = _
        rw [upd_s, hs, Nat.add_assoc]
      · show upd a2 _ _ j = K j ∧ upd a3 _ _ j = V j
        rw [upd_n (by omega), upd_n (by omega)]
        exact i3 j hj
      · show upd a2 _ _ (c * 5 + i') = _ ∧ upd a3 _ _ (c * 5 + i') = _
        by_cases z : i' = i
        · subst z
          rw [upd_s, upd_s]
          unfold hkd hvl
          rw [if_pos g, if_pos g]
          exact ⟨rfl, rfl⟩
        · rw [upd_n (by omega), upd_n (by omega)]
          exact i4 i' (by omega)
      · show upd a2 _ _ (c * 5 + i') = _ ∧ upd a3 _ _ (c * 5 + i') = _
        rw [upd_n (by omega), upd_n (by omega)]
        exact i5 i' (by omega) h2
      · show upd a4 _ _ j = T j
        rw [upd_n (by omega)]
        exact i6 j hj
      · show upd a4 _ _ (c * 8 + (t0 + cnt (nI b) i')) = kd i'
        by_cases z : i' = i
        · subst z
          rw [upd_s]
        · have m2 := cnt_mono (nI b) (i := i' + 1) (n := i) (by omega)
          rw [cnt_s ht] at m2
          rw [upd_n (by omega)]
          exact i7 i' (by omega) ht
    · have hs := cnt_n g
      rw [if_pos ((isb_0 hb).mpr g)]
      refine ⟨(a1, a2, a3, a4), rfl, i1, by rw [hs]; exact i2, i3, fun i' hi' => ?_, fun i' h1 h2 => i5 i' (by omega) h2, i6, fun i' hi' ht => ?_⟩
      · by_cases z : i' = i
        · subst z
          have := i5 i' (Nat.le_refl i') hi
          unfold hkd hvl
          rw [if_neg g, if_neg g]
          exact this
        · exact i4 i' (by omega)
      · by_cases z : i' = i
        · subst z
          exact absurd ht g
        · exact i7 i' (by omega) ht) (fun n' y hI => by
    show lX0_hoist_2 ac (n' + 1) y.1 y.2.1 y.2.2.1 y.2.2.2 (nI c) (nI b) (nI n) = _
    rw [lX0_hoist_2_s, rd_nI hc (by decide), hac, if_pos (up_N (by omega))]) 5000 0 (tc, K, V, T) (Nat.zero_le _) (by omega) ⟨fun _ _ => rfl, htc, fun _ _ => ⟨rfl, rfl⟩, fun i h => absurd h (Nat.not_lt_zero i), fun i _ hi => hK i hi, fun _ _ => rfl, fun i h => absurd h (Nat.not_lt_zero i)⟩
  exact ⟨y.1, y.2.1, y.2.2.1, y.2.2.2, hy, y1, y2, y3, y4, y6, y7⟩
theorem cl_rearrange (hc : c < 8) (hn : n ≤ 5) (he : e ≤ 5) (hsrc : ∀ x, x < e → (d_src x = -1 ∧ kp x = -9) ∨ ∃ j, j < n ∧ d_src x = nI j ∧ kp x = nI j) (hent : ∀ x, x < e → d_keys x = ek x ∧ d_defs x = ed x) (ac ky K V nk nv : Nat → Int32) (hK : ∀ i, i < n → K (c * 5 + i) = hkd b kd i ∧ V (c * 5 + i) = hvl b t0 vl i) : ∃ ky' K' V' nk' nv', fX0_rearrange ac ky K V nk nv (nI e) d_src d_keys d_defs (nI c) = some (upd ac c (nI e), ky', K', V', nk', nv') ∧ (∀ j, (j < c * 5 ∨ c * 5 + 5 ≤ j) → ky' j = ky j ∧ K' j = K j ∧ V' j = V j) ∧ ∀ x, x < e → ky' (c * 5 + x) = ek x ∧ K' (c * 5 + x) = fkd b kd kp x ∧ V' (c * 5 + x) = fvl b t0 vl kp ed x := by
  unfold fX0_rearrange
  obtain ⟨y, hy, hI⟩ := inv_loop (g := fun n' (y : (Nat → Int32) × (Nat → Int32)) i => lX0_rearrange_2 (nI e) d_src d_keys d_defs n' ac ky K V y.1 y.2 (nI c) i) (N := e) (fun i y => ∀ x, x < i → y.1 x = fkd b kd kp x ∧ y.2 x = fvl b t0 vl kp ed x) (K := fun y => lX0_rearrange_77 (nI e) d_src d_keys d_defs 5000 ac ky K V y.1 y.2 (nI c) 0) (fun n' i y hi hI => by
    obtain ⟨p, q⟩ := y
    have hI : ∀ x, x < i → p x = fkd b kd kp x ∧ q x = fvl b t0 vl kp ed x := hI
    show ∃ y' : (Nat → Int32) × (Nat → Int32), lX0_rearrange_2 (nI e) d_src d_keys d_defs (n' + 1) ac ky K V p q (nI c) (nI i) = lX0_rearrange_2 (nI e) d_src d_keys d_defs n' ac ky K V y'.1 y'.2 (nI c) (nI i + 1) ∧ ∀ x, x < i + 1 → y'.1 x = fkd b kd kp x ∧ y'.2 x = fvl b t0 vl kp ed x
    rw [lX0_rearrange_2_s, if_neg (up_i (by omega) hi), rd_nI (by omega) (by decide)]
    unfold jX0_rearrange_40 jX0_rearrange_68
    have post : ∀ a1 a2 : Int32, a1 = fkd b kd kp i → a2 = fvl b t0 vl kp ed i → ∀ x, x < i + 1 → upd p i a1 x = fkd b kd kp x ∧ upd q i a2 x = fvl b t0 vl kp ed x := by
      intro a1 a2 h1 h2 x hx
      by_cases z : x = i
      · subst z
        rw [upd_s, upd_s]
        exact ⟨h1, h2⟩
      · rw [upd_n z, upd_n z]
        exact hI x (by omega)
    rcases hsrc i hi with ⟨w1, w2⟩ | ⟨j, w0, w1, w2⟩
    · rw [if_pos w1, wr_nI (by omega) (by decide), if_pos w1, rd_nI (by omega) (by decide), wr_nI (by omega) (by decide)]
      refine ⟨(upd p i 0, upd q i (d_defs i)), rfl, post _ _ ?_ ?_⟩
      · unfold fkd
        rw [if_pos w2]
      · unfold fvl
        rw [if_pos w2, (hent i hi).2]
    · have h1 : ¬ d_src i = -1 := by
        rw [w1]
        exact fun q => nI_pos (n := j) (by omega) (by rw [q]; decide)
      have h9 : ¬ kp i = -9 := by rw [w2]; exact nI_ne9 (by omega)
      have ek : fX0_kindOf K (nI c) (d_src i) = some (hkd b kd j) := by
        unfold fX0_kindOf
        rw [w1, ix5, rd_nI (by omega) (by decide), (hK j w0).1]
      have ev : fX0_valueOf V (nI c) (d_src i) = some (hvl b t0 vl j) := by
        unfold fX0_valueOf
        rw [w1, ix5, rd_nI (by omega) (by decide), (hK j w0).2]
      rw [if_neg h1, ek, bn_s, wr_nI (by omega) (by decide), if_neg h1, ev, bn_s, wr_nI (by omega) (by decide)]
      refine ⟨(upd p i (hkd b kd j), upd q i (hvl b t0 vl j)), rfl, post _ _ ?_ ?_⟩
      · unfold fkd
        rw [if_neg h9, w2, Nn_nI (by omega)]
      · unfold fvl
        rw [if_neg h9, w2, Nn_nI (by omega)]) (fun n' y hI => by
    show lX0_rearrange_2 (nI e) d_src d_keys d_defs (n' + 1) ac ky K V y.1 y.2 (nI c) (nI e) = _
    rw [lX0_rearrange_2_s, if_pos (up_N (by omega))]) 5000 0 (nk, nv) (Nat.zero_le _) (by omega) (fun x h => absurd h (Nat.not_lt_zero x))
  obtain ⟨p, q⟩ := y
  have hI : ∀ x, x < e → p x = fkd b kd kp x ∧ q x = fvl b t0 vl kp ed x := hI
  obtain ⟨z, hz, z1, z2⟩ := inv_loop (g := fun n' (z : (Nat → Int32) × (Nat → Int32) × (Nat → Int32)) i => lX0_rearrange_77 (nI e) d_src d_keys d_defs n' ac z.1 z.2.1 z.2.2 p q (nI c) i) (N := e) (fun i z => (∀ j, (j < c * 5 ∨ c * 5 + 5 ≤ j) → z.1 j = ky j ∧ z.2.1 j = K j ∧ z.2.2 j = V j) ∧ ∀ x, x < i → z.1 (c * 5 + x) = ek x ∧ z.2.1 (c * 5 + x) = fkd b kd kp x ∧ z.2.2 (c * 5 + x) = fvl b t0 vl kp ed x) (K := fun z => some (upd ac c (nI e), z.1, z.2.1, z.2.2, p, q)) (fun n' i z hi hJ => by
    obtain ⟨a1, a2, a3⟩ := z
    obtain ⟨i1, i2⟩ := hJ
    have i1 : ∀ j, (j < c * 5 ∨ c * 5 + 5 ≤ j) → a1 j = ky j ∧ a2 j = K j ∧ a3 j = V j := i1
    have i2 : ∀ x, x < i → a1 (c * 5 + x) = ek x ∧ a2 (c * 5 + x) = fkd b kd kp x ∧ a3 (c * 5 + x) = fvl b t0 vl kp ed x := i2
    show ∃ z' : (Nat → Int32) × (Nat → Int32) × (Nat → Int32), lX0_rearrange_77 (nI e) d_src d_keys d_defs (n' + 1) ac a1 a2 a3 p q (nI c) (nI i) = lX0_rearrange_77 (nI e) d_src d_keys d_defs n' ac z'.1 z'.2.1 z'.2.2 p q (nI c) (nI i + 1) ∧ (∀ j, (j < c * 5 ∨ c * 5 + 5 ≤ j) → z'.1 j = ky j ∧ z'.2.1 j = K j ∧ z'.2.2 j = V j) ∧ ∀ x, x < i + 1 → z'.1 (c * 5 + x) = ek x ∧ z'.2.1 (c * 5 + x) = fkd b kd kp x ∧ z'.2.2 (c * 5 + x) = fvl b t0 vl kp ed x
    rw [lX0_rearrange_77_s, if_neg (up_i (by omega) hi), rd_nI (by omega) (by decide), ix5, wr_nI (by omega) (by decide), rd_nI (by omega) (by decide), rd_nI (by omega) (by decide)]
    unfold fX0_putArgument
    rw [ix5, wr_nI (by omega) (by decide), wr_nI (by omega) (by decide)]
    refine ⟨(upd a1 (c * 5 + i) (d_keys i), upd a2 (c * 5 + i) (p i), upd a3 (c * 5 + i) (q i)), rfl, fun j hj => ?_, fun x hx => ?_⟩
    · show upd a1 _ _ j = _ ∧ upd a2 _ _ j = _ ∧ upd a3 _ _ j = _
      rw [upd_n (by omega), upd_n (by omega), upd_n (by omega)]
      exact i1 j hj
    · show upd a1 _ _ (c * 5 + x) = _ ∧ upd a2 _ _ (c * 5 + x) = _ ∧ upd a3 _ _ (c * 5 + x) = _
      by_cases w : x = i
      · subst w
        rw [upd_s, upd_s, upd_s]
        exact ⟨(hent x hi).1, (hI x hi).1, (hI x hi).2⟩
      · rw [upd_n (by omega), upd_n (by omega), upd_n (by omega)]
        exact i2 x (by omega)) (fun n' z hJ => by
    show lX0_rearrange_77 (nI e) d_src d_keys d_defs (n' + 1) ac z.1 z.2.1 z.2.2 p q (nI c) (nI e) = _
    rw [lX0_rearrange_77_s, if_pos (up_N (by omega)), wr_nI hc (by decide)]) 5000 0 (ky, K, V) (Nat.zero_le _) (by omega) ⟨fun _ _ => ⟨rfl, rfl, rfl⟩, fun x h => absurd h (Nat.not_lt_zero x)⟩
  exact ⟨z.1, z.2.1, z.2.2, p, q, hy.trans hz, z1, z2⟩
end R8
