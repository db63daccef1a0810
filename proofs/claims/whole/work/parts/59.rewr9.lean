/-! one call rewritten: the reference -/
theorem cnt_mono (x : Int32) {i n : Nat} (h : i ≤ n) : cnt x i ≤ cnt x n := by
  induction n with
  | zero =>
    have : i = 0 := by omega
    rw [this]
    exact Nat.le_refl _
  | succ n ih =>
    by_cases e : i = n + 1
    · rw [e]
      exact Nat.le_refl _
    · have := ih (by omega)
      show cnt x i ≤ cnt x n + (if tb x n = true then 1 else 0)
      omega
theorem cnt_s {x : Int32} {i : Nat} (h : tb x i = true) : cnt x (i + 1) = cnt x i + 1 := by
  show cnt x i + (if tb x i = true then 1 else 0) = _
  rw [if_pos h]
theorem cnt_n {x : Int32} {i : Nat} (h : ¬ tb x i = true) : cnt x (i + 1) = cnt x i := by
  show cnt x i + (if tb x i = true then 1 else 0) = _
  rw [if_neg h, Nat.add_zero]
theorem cnt_hit (x : Int32) : ∀ n t, t < cnt x n → ∃ i, i < n ∧ tb x i = true ∧ cnt x i = t := by
  intro n
  induction n with
  | zero => intro t h; exact absurd h (Nat.not_lt_zero t)
  | succ n ih =>
    intro t h
    by_cases g : tb x n = true
    · rw [cnt_s g] at h
      by_cases z : t = cnt x n
      · exact ⟨n, by omega, g, z.symm⟩
      · obtain ⟨i, h1, h2⟩ := ih t (by omega)
        exact ⟨i, by omega, h2⟩
    · rw [cnt_n g] at h
      obtain ⟨i, h1, h2⟩ := ih t h
      exact ⟨i, by omega, h2⟩
def hkd (b : Nat) (kd : Nat → Int32) (i : Nat) : Int32 := if tb (nI b) i = true then 3 else kd i
def hvl (b t0 : Nat) (vl : Nat → Int32) (i : Nat) : Int32 := if tb (nI b) i = true then nI (t0 + cnt (nI b) i) else vl i
def fkd (b : Nat) (kd kp : Nat → Int32) (x : Nat) : Int32 := if kp x = -9 then 0 else hkd b kd (Nn (kp x))
def fvl (b t0 : Nat) (vl kp ed : Nat → Int32) (x : Nat) : Int32 := if kp x = -9 then ed x else hvl b t0 vl (Nn (kp x))
def rwK (s : Nat → Int32) (c : Nat) : Nat → Int32 := fun i => rC s c (5 + i)
def rwV (s : Nat → Int32) (c : Nat) : Nat → Int32 := fun i => rC s c (10 + i)
/-- the new row of a rewritten call -/
def RW (s s' : Nat → Int32) (c n b e : Nat) (kp ek ed : Nat → Int32) : Prop := (∀ w, w < 4 → rC s' c w = rC s c w) ∧ rC s' c 4 = nI e ∧ rC s' c 20 = nI (cN s c + cnt (nI b) n) ∧ (∀ x, x < e → rC s' c (5 + x) = fkd b (rwK s c) kp x ∧ rC s' c (10 + x) = fvl b (cN s c) (rwV s c) kp ed x ∧ rC s' c (15 + x) = ek x) ∧ (∀ j, j < cN s c → rC s' c (21 + j) = rC s c (21 + j)) ∧ ∀ i, i < n → tb (nI b) i = true → rC s' c (21 + (cN s c + cnt (nI b) i)) = rC s c (5 + i)
section R9
variable {s : Nat → Int32} {c n b e : Nat} {kp ek ed : Nat → Int32}
theorem rw_hoist9 (hc : c < 8) (hn : n ≤ 5) (h20 : rC s c 20 = nI (cN s c)) (hroom : cN s c + cnt (nI b) n ≤ 8) (en : Int32) (kz nz : Nat → Int32) : ∃ u K N, lX9_rewrite_21 en kp ek ed 5000 s kz nz (nI c) (nI b) (nI n) 0 = lX9_rewrite_165 en kp ek ed 5000 (upd u (235 + 29 * c + 4) en) K N (nI c) 0 ∧ (∀ j, (j < 235 + 29 * c + 20 ∨ 235 + 29 * c + 29 ≤ j) → u j = s j) ∧ rC u c 20 = nI (cN s c + cnt (nI b) n) ∧ (∀ j, j < cN s c → rC u c (21 + j) = rC s c (21 + j)) ∧ (∀ i, i < n → tb (nI b) i = true → rC u c (21 + (cN s c + cnt (nI b) i)) = rC s c (5 + i)) ∧ ∀ i, i < n → K i = hkd b (rwK s c) i ∧ N i = hvl b (cN s c) (rwV s c) i := by
  obtain ⟨y, hy, y1, y2, y3, y4, y5⟩ := inv_loop (g := fun n' (y : (Nat → Int32) × (Nat → Int32) × (Nat → Int32)) i => lX9_rewrite_21 en kp ek ed n' y.1 y.2.1 y.2.2 (nI c) (nI b) (nI n) i) (N := n) (fun i y => (∀ j, (j < 235 + 29 * c + 20 ∨ 235 + 29 * c + 29 ≤ j) → y.1 j = s j) ∧ rC y.1 c 20 = nI (cN s c + cnt (nI b) i) ∧ (∀ j, j < cN s c → rC y.1 c (21 + j) = rC s c (21 + j)) ∧ (∀ i', i' < i → tb (nI b) i' = true → rC y.1 c (21 + (cN s c + cnt (nI b) i')) = rC s c (5 + i')) ∧ ∀ i', i' < i → y.2.1 i' = hkd b (rwK s c) i' ∧ y.2.2 i' = hvl b (cN s c) (rwV s c) i') (K := fun y => lX9_rewrite_165 en kp ek ed 5000 (upd y.1 (235 + 29 * c + 4) en) y.2.1 y.2.2 (nI c) 0) (fun n' i y hi hI => by
    obtain ⟨u, K, N⟩ := y
    obtain ⟨i1, i2, i3, i4, i5⟩ := hI
    have i1 : ∀ j, (j < 235 + 29 * c + 20 ∨ 235 + 29 * c + 29 ≤ j) → u j = s j := i1
    have i2 : rC u c 20 = nI (cN s c + cnt (nI b) i) := i2
    have i3 : ∀ j, j < cN s c → rC u c (21 + j) = rC s c (21 + j) := i3
    have i4 : ∀ i', i' < i → tb (nI b) i' = true → rC u c (21 + (cN s c + cnt (nI b) i')) = rC s c (5 + i') := i4
    have i5 : ∀ i', i' < i → K i' = hkd b (rwK s c) i' ∧ N i' = hvl b (cN s c) (rwV s c) i' := i5
    show ∃ y' : (Nat → Int32) × (Nat → Int32) × (Nat → Int32), lX9_rewrite_21 en kp ek ed (n' + 1) u K N (nI c) (nI b) (nI n) (nI i) = lX9_rewrite_21 en kp ek ed n' y'.1 y'.2.1 y'.2.2 (nI c) (nI b) (nI n) (nI i + 1) ∧ (∀ j, (j < 235 + 29 * c + 20 ∨ 235 + 29 * c + 29 ≤ j) → y'.1 j = s j) ∧ rC y'.1 c 20 = nI (cN s c + cnt (nI b) (i + 1)) ∧ (∀ j, j < cN s c → rC y'.1 c (21 + j) = rC s c (21 + j)) ∧ (∀ i', i' < i + 1 → tb (nI b) i' = true → rC y'.1 c (21 + (cN s c + cnt (nI b) i')) = rC s c (5 + i')) ∧ ∀ i', i' < i + 1 → y'.2.1 i' = hkd b (rwK s c) i' ∧ y'.2.2 i' = hvl b (cN s c) (rwV s c) i'
    have k5 : rC u c (5 + i) = rC s c (5 + i) := i1 _ (by omega)
    have k10 : rC u c (10 + i) = rC s c (10 + i) := i1 _ (by omega)
    rw [lX9_rewrite_21_s, if_neg (up_i (by omega) hi), e_kindOf9 hc (by omega), bn_s, wr_nI (by omega) (by decide), o10, e_at rfl, bn_s, rd_C hc (by omega), wr_nI (by omega) (by decide), k5, k10]
    obtain ⟨r, hr, hb⟩ := e_has (nI b) (k := i) (by omega)
    rw [hr, bn_s]
    have mono := cnt_mono (nI b) (i := i + 1) (n := n) hi
    by_cases g : tb (nI b) i = true
    · have hs := cnt_s g
      rw [if_neg (fun q => (isb_0 hb).mp q g), e_at20, bn_s, rd_C hc (by decide), i2, o21, e_at rfl, bn_s, rd_nI (by omega) (by decide), upd_s, wr_nI (by omega) (by decide), bn_s, rd_C hc (by decide)]
      have r20 : rC (upd u (235 + 29 * c + (21 + (cN s c + cnt (nI b) i))) (rC s c (5 + i))) c 20 = nI (cN s c + cnt (nI b) i) := by
        unfold rC
        rw [upd_n (by omega)]
        exact i2
      rw [r20, wr_nI (by omega) (by decide), wr_nI (by omega) (by decide), wr_nI (by omega) (by decide), nI_1]
      refine ⟨(upd (upd u (235 + 29 * c + (21 + (cN s c + cnt (nI b) i))) (rC s c (5 + i))) (235 + 29 * c + 20) (nI (cN s c + cnt (nI b) i + 1)), upd (upd K i (rC s c (5 + i))) i 3, upd (upd N i (rC s c (10 + i))) i (nI (cN s c + cnt (nI b) i))), rfl, fun j hj => ?_, ?_, fun j hj => ?_, fun i' hi' ht => ?_, fun i' hi' => ?_⟩
      · show upd (upd u _ _) _ _ j = s j
        rw [upd_n (by omega), upd_n (by omega)]
        exact i1 j hj
      · show rC (upd (upd u _ _) _ _) c 20 = _
        unfold rC
        rw [upd_s, hs, Nat.add_assoc]
      · show rC (upd (upd u _ _) _ _) c (21 + j) = _
        unfold rC
        rw [upd_n (by omega), upd_n (by omega)]
        exact i3 j hj
      · show rC (upd (upd u _ _) _ _) c (21 + (cN s c + cnt (nI b) i')) = _
        unfold rC
        rw [upd_n (by omega)]
        by_cases z : i' = i
        · subst z
          rw [upd_s]
        · have m2 := cnt_mono (nI b) (i := i' + 1) (n := i) (by omega)
          rw [cnt_s ht] at m2
          rw [upd_n (by omega)]
          exact i4 i' (by omega) ht
      · show upd (upd K i _) i 3 i' = _ ∧ upd (upd N i _) i _ i' = _
        by_cases z : i' = i
        · subst z
          rw [upd_s, upd_s]
          unfold hkd hvl
          rw [if_pos g, if_pos g]
          exact ⟨rfl, rfl⟩
        · rw [upd_n z, upd_n z, upd_n z, upd_n z]
          exact i5 i' (by omega)
    · have hs := cnt_n g
      rw [if_pos ((isb_0 hb).mpr g)]
      refine ⟨(u, upd K i (rC s c (5 + i)), upd N i (rC s c (10 + i))), rfl, i1, by rw [hs]; exact i2, i3, fun i' hi' ht => ?_, fun i' hi' => ?_⟩
      · by_cases z : i' = i
        · subst z
          exact absurd ht g
        · exact i4 i' (by omega) ht
      · show upd K i _ i' = _ ∧ upd N i _ i' = _
        by_cases z : i' = i
        · subst z
          rw [upd_s, upd_s]
          unfold hkd hvl
          rw [if_neg g, if_neg g]
          exact ⟨rfl, rfl⟩
        · rw [upd_n z, upd_n z]
          exact i5 i' (by omega)) (fun n' y hI => by
    show lX9_rewrite_21 en kp ek ed (n' + 1) y.1 y.2.1 y.2.2 (nI c) (nI b) (nI n) (nI n) = _
    rw [lX9_rewrite_21_s, if_pos (up_N (by omega)), e_at4, bn_s, wr_nI (by omega) (by decide)]) 5000 0 (s, kz, nz) (Nat.zero_le _) (by omega) ⟨fun _ _ => rfl, h20, fun _ _ => rfl, fun i h => absurd h (Nat.not_lt_zero i), fun i h => absurd h (Nat.not_lt_zero i)⟩
  exact ⟨y.1, y.2.1, y.2.2, hy, y1, y2, y3, y4, y5⟩
theorem rw_entries9 (hc : c < 8) (hn : n ≤ 5) (he : e ≤ 5) (hkp : ∀ x, x < e → kp x = -9 ∨ ∃ j, j < n ∧ kp x = nI j) {kd vl : Nat → Int32} {t0 : Nat} (v K N : Nat → Int32) (hK : ∀ i, i < n → K i = hkd b kd i ∧ N i = hvl b t0 vl i) : ∃ u, lX9_rewrite_165 (nI e) kp ek ed 5000 v K N (nI c) 0 = some (u, K, N) ∧ (∀ j, (j < 235 + 29 * c + 5 ∨ 235 + 29 * c + 20 ≤ j) → u j = v j) ∧ ∀ x, x < e → rC u c (5 + x) = fkd b kd kp x ∧ rC u c (10 + x) = fvl b t0 vl kp ed x ∧ rC u c (15 + x) = ek x := by
  obtain ⟨u, hu, u1, u2⟩ := inv_loop (g := fun n' (u : Nat → Int32) i => lX9_rewrite_165 (nI e) kp ek ed n' u K N (nI c) i) (N := 5) (fun i u => (∀ j, (j < 235 + 29 * c + 5 ∨ 235 + 29 * c + 20 ≤ j) → u j = v j) ∧ ∀ x, x < i → x < e → rC u c (5 + x) = fkd b kd kp x ∧ rC u c (10 + x) = fvl b t0 vl kp ed x ∧ rC u c (15 + x) = ek x) (K := fun u => some (u, K, N)) (fun n' i u hi hI => by
    obtain ⟨i1, i2⟩ := hI
    show ∃ u', lX9_rewrite_165 (nI e) kp ek ed (n' + 1) u K N (nI c) (nI i) = lX9_rewrite_165 (nI e) kp ek ed n' u' K N (nI c) (nI i + 1) ∧ (∀ j, (j < 235 + 29 * c + 5 ∨ 235 + 29 * c + 20 ≤ j) → u' j = v j) ∧ ∀ x, x < i + 1 → x < e → rC u' c (5 + x) = fkd b kd kp x ∧ rC u' c (10 + x) = fvl b t0 vl kp ed x ∧ rC u' c (15 + x) = ek x
    have post : ∀ a1 a2 a3 : Int32, (i < e → a1 = fkd b kd kp i ∧ a2 = fvl b t0 vl kp ed i ∧ a3 = ek i) → (∀ j, (j < 235 + 29 * c + 5 ∨ 235 + 29 * c + 20 ≤ j) → upd (upd (upd u (235 + 29 * c + (5 + i)) a1) (235 + 29 * c + (10 + i)) a2) (235 + 29 * c + (15 + i)) a3 j = v j) ∧ ∀ x, x < i + 1 → x < e → rC (upd (upd (upd u (235 + 29 * c + (5 + i)) a1) (235 + 29 * c + (10 + i)) a2) (235 + 29 * c + (15 + i)) a3) c (5 + x) = fkd b kd kp x ∧ rC (upd (upd (upd u (235 + 29 * c + (5 + i)) a1) (235 + 29 * c + (10 + i)) a2) (235 + 29 * c + (15 + i)) a3) c (10 + x) = fvl b t0 vl kp ed x ∧ rC (upd (upd (upd u (235 + 29 * c + (5 + i)) a1) (235 + 29 * c + (10 + i)) a2) (235 + 29 * c + (15 + i)) a3) c (15 + x) = ek x := by
      intro a1 a2 a3 ha
      refine ⟨fun j hj => ?_, fun x hx hxe => ?_⟩
      · rw [upd_n (by omega), upd_n (by omega), upd_n (by omega)]
        exact i1 j hj
      · unfold rC
        by_cases z : x = i
        · subst z
          obtain ⟨q1, q2, q3⟩ := ha hxe
          refine ⟨?_, ?_, ?_⟩
          · rw [upd_n (by omega), upd_n (by omega), upd_s, q1]
          · rw [upd_n (by omega), upd_s, q2]
          · rw [upd_s, q3]
        · obtain ⟨q1, q2, q3⟩ := i2 x (by omega) hxe
          refine ⟨?_, ?_, ?_⟩
          · rw [upd_n (by omega), upd_n (by omega), upd_n (by omega)]
            exact q1
          · rw [upd_n (by omega), upd_n (by omega), upd_n (by omega)]
            exact q2
          · rw [upd_n (by omega), upd_n (by omega), upd_n (by omega)]
            exact q3
    rw [lX9_rewrite_165_s, if_neg (show ¬ (5 : Int32) ≤ nI i from up_i (N := 5) (by decide) hi)]
    unfold jX9_rewrite_196 jX9_rewrite_197 jX9_rewrite_233 jX9_rewrite_288 jX9_rewrite_323
    by_cases g : i < e
    · rw [if_neg (up_i (by omega) g), rd_nI (by omega) (by decide)]
      rcases hkp i g with q | ⟨j, hj, q⟩
      · rw [if_pos q, o5, e_at rfl, bn_s, if_pos rfl, wr_nI (by omega) (by decide), o10, e_at rfl, bn_s, if_pos rfl, if_neg (up_i (by omega) g), rd_nI (by omega) (by decide), wr_nI (by omega) (by decide), o15, e_at rfl, bn_s, if_neg (up_i (by omega) g), rd_nI (by omega) (by decide), wr_nI (by omega) (by decide)]
        refine ⟨_, rfl, post _ _ _ (fun _ => ?_)⟩
        unfold fkd fvl
        rw [if_pos q, if_pos q]
        exact ⟨rfl, rfl, rfl⟩
      · have hne : ¬ kp i = -9 := by rw [q]; exact nI_ne9 (by omega)
        rw [if_neg hne, o5, e_at rfl, bn_s, if_neg (by decide), rd_nI (by omega) (by decide), q, rd_nI (by omega) (by decide), wr_nI (by omega) (by decide), o10, e_at rfl, bn_s, if_neg (by decide), rd_nI (by omega) (by decide), q, rd_nI (by omega) (by decide), wr_nI (by omega) (by decide), o15, e_at rfl, bn_s, if_neg (up_i (by omega) g), rd_nI (by omega) (by decide), wr_nI (by omega) (by decide)]
        refine ⟨_, rfl, post _ _ _ (fun _ => ?_)⟩
        unfold fkd fvl
        rw [if_neg hne, if_neg hne, q, Nn_nI (by omega)]
        exact ⟨(hK j hj).1, (hK j hj).2, rfl⟩
    · rw [if_pos (nI_le (by omega) (by omega)), o5, e_at rfl, bn_s, if_pos rfl, wr_nI (by omega) (by decide), o10, e_at rfl, bn_s, if_pos rfl, if_pos (nI_le (by omega) (by omega)), wr_nI (by omega) (by decide), o15, e_at rfl, bn_s, if_pos (nI_le (by omega) (by omega)), wr_nI (by omega) (by decide)]
      exact ⟨_, rfl, post _ _ _ (fun q => absurd q g)⟩) (fun n' u hI => by
    show lX9_rewrite_165 (nI e) kp ek ed (n' + 1) u K N (nI c) (nI 5) = some (u, K, N)
    rw [lX9_rewrite_165_s, if_pos (by decide)]) 5000 0 v (Nat.zero_le _) (by omega) ⟨fun _ _ => rfl, fun x h => absurd h (Nat.not_lt_zero x)⟩
  exact ⟨u, hu, u1, fun x hx => u2 x (by omega) hx⟩
theorem e_rewrite9 (hc : c < 8) (hn : n ≤ 5) (he : e ≤ 5) (h4 : rC s c 4 = nI n) (h20 : rC s c 20 = nI (cN s c)) (hroom : cN s c + cnt (nI b) n ≤ 8) (hkp : ∀ x, x < e → kp x = -9 ∨ ∃ j, j < n ∧ kp x = nI j) (hh : fX9_hoistedOf s (nI e) kp (nI c) = some (nI b)) (kz nz : Nat → Int32) : ∃ s' K N, fX9_rewrite s (nI e) kp ek ed kz nz (nI c) = some (s', K, N) ∧ (∀ j, (j < 235 + 29 * c ∨ 235 + 29 * c + 29 ≤ j) → s' j = s j) ∧ RW s s' c n b e kp ek ed := by
  unfold fX9_rewrite
  rw [hh, bn_s, e_at4, bn_s, rd_C hc (by decide), h4]
  obtain ⟨u, K, N, h1, u1, u2, u3, u4, u5⟩ := rw_hoist9 (kp := kp) (ek := ek) (ed := ed) hc hn h20 hroom (nI e) kz nz
  obtain ⟨v, h2, v1, v2⟩ := rw_entries9 (ek := ek) (ed := ed) hc hn he hkp (upd u (235 + 29 * c + 4) (nI e)) K N u5
  have vo : ∀ w, w < 29 → w ≠ 4 → (w < 5 ∨ 20 ≤ w) → rC v c w = rC u c w := fun w h1 h2 h3 => by
    unfold rC
    rw [v1 _ (by omega), upd_n (by omega)]
  refine ⟨v, K, N, h1.trans h2, fun j hj => ?_, fun w hw => ?_, ?_, ?_, v2, fun j hj => ?_, fun i hi ht => ?_⟩
  · rw [v1 j (by omega), upd_n (by omega), u1 j (by omega)]
  · rw [vo w (by omega) (by omega) (by omega)]
    exact u1 _ (by omega)
  · unfold rC
    rw [v1 _ (by omega), upd_s]
  · rw [vo 20 (by omega) (by omega) (by omega), u2]
  · rw [vo (21 + j) (by omega) (by omega) (by omega), u3 j hj]
  · have m2 := cnt_mono (nI b) (i := i + 1) (n := n) hi
    rw [cnt_s ht] at m2
    rw [vo _ (by omega) (by omega) (by omega), u4 i hi ht]
end R9
