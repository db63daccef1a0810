/-! insertParameter -/
theorem bn6_s {α a0 a1 a2 a3 a4 a5 : Type} {x0 : a0} {x1 : a1} {x2 : a2} {x3 : a3} {x4 : a4} {x5 : a5} {k : a0 → a1 → a2 → a3 → a4 → a5 → Option α} : bn6 (some (x0, x1, x2, x3, x4, x5)) k = k x0 x1 x2 x3 x4 x5 := rfl
theorem pigeon : ∀ (n : Nat) (L : List Nat), L.length < n → ∃ k, k < n ∧ k ∉ L := by
  intro n
  induction n with
  | zero => intro L h; omega
  | succ n ih =>
    intro L h
    by_cases g : n ∈ L
    · have h1 : (L.erase n).length = L.length - 1 := List.length_erase_of_mem g
      have h0 : 0 < L.length := List.length_pos_of_mem g
      have h4 : (L.erase n).length < n := by omega
      obtain ⟨k, h2, h3⟩ := ih (L.erase n) h4
      exact ⟨k, by omega, fun q => h3 ((List.mem_erase_of_ne (by omega)).mpr q)⟩
    · exact ⟨n, by omega, g⟩
theorem least {P : Nat → Prop} (n : Nat) : (∃ k, k < n ∧ P k) → ∃ k, k < n ∧ P k ∧ ∀ j, j < k → ¬ P j := by
  induction n with
  | zero => rintro ⟨k, h, _⟩; omega
  | succ n ih =>
    rintro ⟨k, h1, h2⟩
    by_cases g : ∃ k, k < n ∧ P k
    · obtain ⟨k, h3, h4, h5⟩ := ih g
      exact ⟨k, by omega, h4, h5⟩
    · refine ⟨n, by omega, ?_, fun j hj q => g ⟨j, hj, q⟩⟩
      have : k = n := Classical.byContradiction (fun z => g ⟨k, by omega, h2⟩)
      rw [← this]
      exact h2
theorem e_isValue (v : Int32) : ∃ r, fX8_isValue v = some r ∧ isb r (-99 ≤ v ∧ v ≤ 99) := by
  unfold fX8_isValue
  by_cases g1 : v < -99
  · rw [if_pos g1]
    exact ⟨0, rfl, isb_f (fun q => Int32.not_le.mpr g1 q.1)⟩
  · rw [if_neg g1]
    by_cases g2 : 99 < v
    · rw [if_pos g2]
      exact ⟨0, rfl, isb_f (fun q => Int32.not_le.mpr g2 q.2)⟩
    · rw [if_neg g2]
      exact ⟨1, rfl, isb_t ⟨Int32.not_lt.mp g1, Int32.not_lt.mp g2⟩⟩
section DI
variable {s : Nat → Int32} {nt nm m e : Nat} {d_method d_family d_old d_kept d_count d_used : Int32} {d_src d_keys d_defs : Nat → Int32} {ch en : Int32} {kp ek ed : Nat → Int32}
theorem e_isTaken (hm : WFM s nt nm) (hmm : m < nm) (he : e ≤ 5) (ek : Nat → Int32) (x : Int32) : ∃ r, fX9_isTaken s (nI m) (nI e) ek x = some r ∧ isb r (taken s m e ek x) := by
  have h16 := hm.1
  obtain ⟨w1, w2, w3, w4, w5, w6⟩ := hm.2.2 m hmm
  unfold fX9_isTaken
  obtain ⟨y, hy, hyb⟩ := inv_loop (g := fun n' y i => lX9_isTaken_4 s (nI m) (nI e) ek n' x y i) (N := nA s m) (fun i y => isb y (∃ j, j < i ∧ rM s m (3 + j) = x)) (K := fun y => lX9_isTaken_50 s (nI m) (nI e) ek 5000 x y 0) (fun n' i y hi hI => by
    show ∃ y', lX9_isTaken_4 s (nI m) (nI e) ek (n' + 1) x y (nI i) = lX9_isTaken_4 s (nI m) (nI e) ek n' x y' (nI i + 1) ∧ isb y' (∃ j, j < i + 1 ∧ rM s m (3 + j) = x)
    have hI : isb y (∃ j, j < i ∧ rM s m (3 + j) = x) := hI
    rw [lX9_isTaken_4_s, e_of2 (by omega), bn_s, w3, if_neg (up_i (by omega) hi)]
    unfold jX9_isTaken_36 jX9_isTaken_41
    rcases hI with ⟨rfl, hp⟩ | ⟨rfl, hp⟩
    · rw [if_neg (by decide)]
      exact ⟨1, rfl, isb_t (ex_succ.mpr (Or.inl hp))⟩
    · rw [if_pos rfl, o3, e_of (w := 3 + i) (by omega) (by omega) rfl, bn_s]
      by_cases g : rM s m (3 + i) = x
      · rw [if_pos g]
        exact ⟨1, rfl, isb_t (ex_succ.mpr (Or.inr g))⟩
      · rw [if_neg g]
        exact ⟨0, rfl, isb_f (fun q => (ex_succ.mp q).elim hp g)⟩) (fun n' y hI => by
    show lX9_isTaken_4 s (nI m) (nI e) ek (n' + 1) x y (nI (nA s m)) = _
    rw [lX9_isTaken_4_s, e_of2 (by omega), bn_s, w3, if_pos (up_N (by omega))]) 5000 0 0 (Nat.zero_le _) (by omega) (isb_f ex_zero)
  have hyb : isb y (∃ j, j < nA s m ∧ rM s m (3 + j) = x) := hyb
  obtain ⟨z, hz, hzb⟩ := inv_loop (g := fun n' y i => lX9_isTaken_50 s (nI m) (nI e) ek n' x y i) (N := e) (fun i y => isb y ((∃ j, j < nA s m ∧ rM s m (3 + j) = x) ∨ ∃ j, j < i ∧ ek j = x)) (K := rb) (fun n' i y hi hI => by
    show ∃ y', lX9_isTaken_50 s (nI m) (nI e) ek (n' + 1) x y (nI i) = lX9_isTaken_50 s (nI m) (nI e) ek n' x y' (nI i + 1) ∧ isb y' ((∃ j, j < nA s m ∧ rM s m (3 + j) = x) ∨ ∃ j, j < i + 1 ∧ ek j = x)
    have hI : isb y ((∃ j, j < nA s m ∧ rM s m (3 + j) = x) ∨ ∃ j, j < i ∧ ek j = x) := hI
    rw [lX9_isTaken_50_s, if_neg (up_i (by omega) hi)]
    unfold jX9_isTaken_72 jX9_isTaken_77
    rcases hI with ⟨rfl, hp⟩ | ⟨rfl, hp⟩
    · rw [if_neg (by decide)]
      exact ⟨1, rfl, isb_t (hp.elim Or.inl (fun q => Or.inr (ex_succ.mpr (Or.inl q))))⟩
    · rw [if_pos rfl, rd_nI (by omega) (by decide)]
      by_cases g : ek i = x
      · rw [if_pos g]
        exact ⟨1, rfl, isb_t (Or.inr (ex_succ.mpr (Or.inr g)))⟩
      · rw [if_neg g]
        exact ⟨0, rfl, isb_f (fun q => q.elim (fun z => hp (Or.inl z)) (fun z => (ex_succ.mp z).elim (fun z => hp (Or.inr z)) g))⟩) (fun n' y hI => by
    show lX9_isTaken_50 s (nI m) (nI e) ek (n' + 1) x y (nI e) = rb y
    rw [lX9_isTaken_50_s, if_pos (up_N (by omega))]) 5000 0 y (Nat.zero_le _) (by omega) (isb_iff hyb ⟨Or.inl, fun h => h.elim id (fun q => absurd q ex_zero)⟩)
  have hzb : isb z ((∃ j, j < nA s m ∧ rM s m (3 + j) = x) ∨ ∃ j, j < e ∧ ek j = x) := hzb
  exact ⟨z, (hy.trans hz).trans (isb_rb hzb), hzb⟩
theorem free_key (hm : WFM s nt nm) (hmm : m < nm) (he : e < 5) (hk : ∀ i, i < e → ek i = nI (Nn (ek i)) ∧ Nn (ek i) < 10) : ∃ k, k < 10 ∧ ¬ taken s m e ek (nI k) ∧ ∀ j, j < k → taken s m e ek (nI j) := by
  obtain ⟨w1, w2, w3, w4, w5, w6⟩ := hm.2.2 m hmm
  obtain ⟨k, h1, h2⟩ := pigeon 10 ((List.range (nA s m)).map (fun i => nK s m i) ++ (List.range e).map (fun i => Nn (ek i))) (by simp; omega)
  have h3 : ¬ taken s m e ek (nI k) := by
    rintro (⟨i, hi, q⟩ | ⟨i, hi, q⟩)
    · apply h2
      rw [(w5 i hi).1] at q
      have q := nI_inj (by have := (w5 i hi).2; omega) (by omega) q
      rw [← q]
      exact List.mem_append.mpr (Or.inl (List.mem_map.mpr ⟨i, List.mem_range.mpr hi, rfl⟩))
    · apply h2
      have hh := hk i hi
      rw [hh.1] at q
      have q := nI_inj (by omega) (by omega) q
      rw [← q]
      exact List.mem_append.mpr (Or.inr (List.mem_map.mpr ⟨i, List.mem_range.mpr hi, rfl⟩))
  obtain ⟨k', g1, g2, g3⟩ := least (P := fun k => ¬ taken s m e ek (nI k)) 10 ⟨k, h1, h3⟩
  exact ⟨k', g1, g2, fun j hj => Classical.byContradiction (g3 j hj)⟩
theorem op_insertParameter (d_open : Int32) (hw : WFT s nt) (hm : WFM s nt nm) (D : DL s d_open d_method d_family d_old d_kept d_count d_used d_src d_keys d_defs ch en kp ek ed) (x : Int32) :
    ∃ r o2 f1 f2 f3 o3 en' f4 f5 f6, fX8_insertParameter d_open d_count d_src d_keys d_defs d_used x = some (r, o2, f1, f2, f3, o3) ∧ fX9_insertParameter s ch en kp ek ed x = some (r, en', f4, f5, f6) ∧ DL s d_open d_method d_family d_old d_kept o2 o3 f1 f2 f3 ch en' f4 f5 f6 := by
  have h16 := hm.1
  unfold fX8_insertParameter fX9_insertParameter
  obtain ⟨r1, hr1, hb1⟩ := e_isValue x
  obtain ⟨r2, hr2, hb2⟩ := e_in x (-99) 99
  rw [hr1, hr2, bn_s, bn_s]
  by_cases g : -99 ≤ x ∧ x ≤ 99
  · rw [if_neg (fun q => (isb_0 hb1).mp q g), if_neg (fun q => (isb_0 hb2).mp q g)]
    rcases id D with ⟨D1, D2⟩ | ⟨D1, nt', nm', m, e, hw', hm', O⟩
    · rw [if_pos D1, if_pos D2]
      exact ⟨_, _, _, _, _, _, _, _, _, _, rfl, rfl, D⟩
    · have e1 := WFT_uniq hw' hw
      subst e1
      have e2 := WFM_uniq hm' hm
      subst e2
      have hmm := O.mm
      have he5 := O.e5
      have D' := D
      rw [D1, O.ct, O.hch, O.hen] at D'
      rw [D1, if_neg (by decide), O.hch, if_neg (nI_ne9 (by omega)), O.ct, O.hen]
      by_cases g8 : e = 5
      · subst g8
        rw [if_neg (show ¬ nI 5 < (5 : Int32) by decide), if_pos (show nI 5 = (5 : Int32) from rfl)]
        exact ⟨_, _, _, _, _, _, _, _, _, _, rfl, rfl, D'⟩
      · have hlt : e < 5 := by omega
        rw [if_pos (show nI e < (5 : Int32) from nI_lt (b := 5) hlt (by decide)), if_neg (show ¬ nI e = (5 : Int32) from fun q => g8 (nI_inj (b := 5) (by omega) (by decide) q))]
        obtain ⟨E1, E2, E3⟩ := O.de
        obtain ⟨k0, k1, k2, k3⟩ := free_key hm hmm hlt (fun i hi => ⟨(E1 i hi).2.2.1, (E1 i hi).2.2.2⟩)
        have c8 : ∀ n i, i ≤ k0 → k0 - i < n → lX1_freeKey_2 d_used n (nI i) = some (nI k0) := by
          intro n
          induction n with
          | zero => intro i _ h; omega
          | succ n ih =>
            intro i hi hn
            rw [lX1_freeKey_2_s, if_neg (show ¬ (10 : Int32) ≤ nI i from up_i (N := 10) (by decide) (by omega))]
            obtain ⟨r3, hr3, hb3⟩ := e_contains d_used (k := i) (by omega)
            rw [hr3, bn_s]
            by_cases z : i = k0
            · subst z
              rw [if_pos ((isb_0 hb3).mpr (fun q => k2 ((O.us i (by omega)).mp q)))]
            · rw [if_neg (fun q => (isb_0 hb3).mp q ((O.us i (by omega)).mpr (k3 i (by omega)))), nI_1]
              exact ih (i + 1) (by omega) (by omega)
        have c9 : ∀ n i, i ≤ k0 → k0 - i < n → lX9_insertParameter_38 s (nI m) n (nI e) kp ek ed x (nI i) = some (nI k0, nI (e + 1), upd kp e (-9), upd ek e (nI k0), upd ed e x) := by
          intro n
          induction n with
          | zero => intro i _ h; omega
          | succ n ih =>
            intro i hi hn
            rw [lX9_insertParameter_38_s]
            obtain ⟨r3, hr3, hb3⟩ := e_isTaken hm hmm he5 ek (nI i)
            rw [hr3, bn_s]
            by_cases z : i = k0
            · subst z
              rw [if_pos ((isb_0 hb3).mpr k2), wr_nI hlt (by decide), wr_nI hlt (by decide), wr_nI hlt (by decide), nI_1]
            · rw [if_neg (fun q => (isb_0 hb3).mp q (k3 i (by omega))), nI_1]
              exact ih (i + 1) (by omega) (by omega)
        have c9' : lX9_insertParameter_38 s (nI m) 5000 (nI e) kp ek ed x 0 = _ := c9 5000 0 (Nat.zero_le _) (by omega)
        have c8' : lX1_freeKey_2 d_used 5000 0 = _ := c8 5000 0 (Nat.zero_le _) (by omega)
        rw [c9']
        unfold fX1_insert fX1_append fX1_freeKey
        rw [c8', bn_s, e_bit, bn_s, wr_nI hlt (by decide), wr_nI hlt (by decide), wr_nI hlt (by decide), nI_1]
        refine ⟨nI k0, nI (e + 1), upd d_src e (-1), upd d_keys e (nI k0), upd d_defs e x, d_used ||| (1 <<< (nI k0 &&& 31)), nI (e + 1), upd kp e (-9), upd ek e (nI k0), upd ed e x, rfl, rfl, Or.inr ⟨rfl, nt', nm', m, e + 1, hw, hm, hmm, by omega, rfl, O.dm, O.od, rfl, rfl, O.fm, fun k => ?_, fun k hk => ?_, fun i hi => ?_, fun i hi => ?_, fun i i' hii hi' => ?_⟩⟩
        · rw [O.kt k]
          have w4 := (hm.2.2 m hmm).2.2.2.1
          constructor
          · rintro ⟨h1, i, h2, h3⟩
            exact ⟨h1, i, by omega, by rw [upd_n (by omega)]; exact h3⟩
          · rintro ⟨h1, i, h2, h3⟩
            by_cases z : i = e
            · subst z
              rw [upd_s] at h3
              exact absurd h3.symm (nI_ne9 (by omega))
            · rw [upd_n z] at h3
              exact ⟨h1, i, by omega, h3⟩
        · rw [tb_ort, tb_bitt (by omega), O.us k hk]
          constructor
          · rintro ((h | ⟨i, h2, h3⟩) | rfl)
            · exact Or.inl h
            · exact Or.inr ⟨i, by omega, by rw [upd_n (by omega)]; exact h3⟩
            · exact Or.inr ⟨e, by omega, upd_s⟩
          · rintro (h | ⟨i, h2, h3⟩)
            · exact Or.inl (Or.inl h)
            · by_cases z : i = e
              · subst z
                rw [upd_s] at h3
                exact Or.inr (nI_inj (by omega) (by omega) h3).symm
              · rw [upd_n z] at h3
                exact Or.inl (Or.inr ⟨i, by omega, h3⟩)
        · by_cases z : i = e
          · subst z
            rw [upd_s, upd_s, upd_s, upd_s, Nn_nI (by omega)]
            exact ⟨rfl, rfl, rfl, k1⟩
          · rw [upd_n z, upd_n z, upd_n z, upd_n z]
            exact E1 i (by omega)
        · by_cases z : i = e
          · subst z
            rw [upd_s, upd_s, upd_s, upd_s]
            exact Or.inl ⟨rfl, rfl, fun j hj q => k2 (Or.inl ⟨j, hj, q⟩)⟩
          · rw [upd_n z, upd_n z, upd_n z, upd_n z]
            exact E2 i (by omega)
        · rw [upd_n (by omega)]
          by_cases z : i' = e
          · subst z
            rw [upd_s]
            exact fun q => k2 (Or.inr ⟨i, by omega, q⟩)
          · rw [upd_n z]
            exact E3 i i' hii (by omega)
  · rw [if_pos ((isb_0 hb1).mpr g), if_pos ((isb_0 hb2).mpr g)]
    exact ⟨_, _, _, _, _, _, _, _, _, _, rfl, rfl, D⟩
end DI
