/-! what may be hoisted: the class -/
theorem all_k {α : Type} {g : Nat → Int32 → Option α} {N : Nat} {P : Nat → Prop} {R E : Option α} (hs : ∀ n i, i < N → (P i → g (n + 1) (nI i) = g n (nI i + 1)) ∧ (¬ P i → g (n + 1) (nI i) = E)) (he : ∀ n, g (n + 1) (nI N) = R) : ∀ n i, i ≤ N → N - i < n → ((∀ t, i ≤ t → t < N → P t) ∧ g n (nI i) = R) ∨ ((∃ t, i ≤ t ∧ t < N ∧ ¬ P t) ∧ g n (nI i) = E) := by
  intro n
  induction n with
  | zero => intro i _ h; omega
  | succ n ih =>
    intro i hi hn
    by_cases hlt : i < N
    · obtain ⟨h1, h2⟩ := hs n i hlt
      by_cases hq : P i
      · rw [h1 hq, nI_1]
        rcases ih (i + 1) hlt (by omega) with ⟨h3, h4⟩ | ⟨⟨t, h3, h4, h5⟩, h6⟩
        · exact Or.inl ⟨fun t ht1 ht2 => by
            by_cases e : t = i
            · rw [e]; exact hq
            · exact h3 t (by omega) ht2, h4⟩
        · exact Or.inr ⟨⟨t, by omega, h4, h5⟩, h6⟩
      · exact Or.inr ⟨⟨i, Nat.le_refl i, hlt, hq⟩, h2 hq⟩
    · have : i = N := by omega
      subst this
      exact Or.inl ⟨fun t h1 h2 => absurd h2 (by omega), he n⟩
theorem e_conflict (a b : Int32) : ∃ r, fX8_conflict a b = some r ∧ isb r (conf a b) := by
  unfold fX8_conflict jX8_conflict_10 jX8_conflict_15 jX8_conflict_26 jX8_conflict_31
  by_cases a1 : a = 1
  · subst a1
    rw [if_pos rfl]
    by_cases b1 : b = 1
    · subst b1
      exact ⟨0, rfl, isb_f (fun q => q.2.2.elim (by decide) (by decide))⟩
    · rw [if_neg b1]
      by_cases b2 : b = 2
      · subst b2
        exact ⟨1, rfl, isb_t ⟨Or.inl rfl, Or.inr rfl, Or.inr rfl⟩⟩
      · rw [if_neg b2, if_neg (by decide), if_pos rfl]
        exact ⟨0, rfl, isb_f (fun q => q.2.1.elim b1 b2)⟩
  · rw [if_neg a1]
    by_cases a2 : a = 2
    · subst a2
      rw [if_pos rfl]
      by_cases b1 : b = 1
      · subst b1
        exact ⟨1, rfl, isb_t ⟨Or.inr rfl, Or.inl rfl, Or.inl rfl⟩⟩
      · rw [if_neg b1]
        by_cases b2 : b = 2
        · subst b2
          exact ⟨1, rfl, isb_t ⟨Or.inr rfl, Or.inr rfl, Or.inl rfl⟩⟩
        · rw [if_neg b2, if_neg (by decide), if_pos rfl]
          exact ⟨0, rfl, isb_f (fun q => q.2.1.elim b1 b2)⟩
    · rw [if_neg a2]
      by_cases b1 : b = 1
      · rw [if_pos b1, if_pos rfl]
        exact ⟨0, rfl, isb_f (fun q => q.1.elim a1 a2)⟩
      · rw [if_neg b1]
        by_cases b2 : b = 2
        · rw [if_pos b2, if_pos rfl]
          exact ⟨0, rfl, isb_f (fun q => q.1.elim a1 a2)⟩
        · rw [if_neg b2, if_pos rfl]
          exact ⟨0, rfl, isb_f (fun q => q.1.elim a1 a2)⟩
theorem conf_symm {a b : Int32} : conf a b ↔ conf b a := ⟨fun h => ⟨h.2.1, h.1, h.2.2.symm⟩, fun h => ⟨h.2.1, h.1, h.2.2.symm⟩⟩
section CH
variable {c n e : Nat} {kp kd d_src k_ac k_kinds g_kinds g_pos : Nat → Int32} {g_count g_kept d_kept : Int32}
theorem e_look (hc : c < 8) (hn : n ≤ 5) (he : e ≤ 5) (hu : KU e kp) (hac : k_ac c = nI n) (hkd : ∀ i, i < n → k_kinds (c * 5 + i) = kd i) (hsrc : ∀ y, y < e → (d_src y = -1 ∧ kp y = -9) ∨ ∃ j, j < n ∧ d_src y = nI j ∧ kp y = nI j) : ∃ kinds' pos', fX4_look g_count g_kept g_kinds g_pos k_ac k_kinds d_kept (nI e) d_src (nI c) = some (nI n, d_kept, kinds', pos') ∧ (∀ i, i < n → kinds' i = kd i) ∧ ∀ y j, y < e → j < n → kp y = nI j → pos' j = nI y := by
  unfold fX4_look
  rw [rd_nI hc (by decide), hac]
  obtain ⟨u, hu1, hu2⟩ := inv_loop (g := fun n' (u : Nat → Int32) i => lX4_look_21 k_ac k_kinds d_kept (nI e) d_src n' (nI n) d_kept u g_pos (nI c) i) (N := n) (fun i u => ∀ w, w < i → u w = kd w) (K := fun u => lX4_look_53 k_ac k_kinds d_kept (nI e) d_src 5000 (nI n) d_kept u g_pos 0) (fun n' i u hi hI => by
    show ∃ u', lX4_look_21 k_ac k_kinds d_kept (nI e) d_src (n' + 1) (nI n) d_kept u g_pos (nI c) (nI i) = lX4_look_21 k_ac k_kinds d_kept (nI e) d_src n' (nI n) d_kept u' g_pos (nI c) (nI i + 1) ∧ ∀ w, w < i + 1 → u' w = kd w
    rw [lX4_look_21_s, if_neg (up_i (by omega) hi)]
    unfold fX0_kindOf
    rw [ix5, rd_nI (by omega) (by decide), bn_s, wr_nI (by omega) (by decide), hkd i hi]
    refine ⟨_, rfl, fun w hw => ?_⟩
    by_cases z : w = i
    · subst z
      rw [upd_s]
    · rw [upd_n z]
      exact hI w (by omega)) (fun n' u hI => by
    show lX4_look_21 k_ac k_kinds d_kept (nI e) d_src (n' + 1) (nI n) d_kept u g_pos (nI c) (nI n) = _
    rw [lX4_look_21_s, if_pos (up_N (by omega))]) 5000 0 g_kinds (Nat.zero_le _) (by omega) (fun w h => absurd h (Nat.not_lt_zero w))
  obtain ⟨v, hv1, hv2⟩ := inv_loop (g := fun n' (v : Nat → Int32) i => lX4_look_53 k_ac k_kinds d_kept (nI e) d_src n' (nI n) d_kept u v i) (N := e) (fun i v => ∀ y j, y < i → j < n → kp y = nI j → v j = nI y) (K := fun v => some (nI n, d_kept, u, v)) (fun n' i v hi hI => by
    show ∃ v', lX4_look_53 k_ac k_kinds d_kept (nI e) d_src (n' + 1) (nI n) d_kept u v (nI i) = lX4_look_53 k_ac k_kinds d_kept (nI e) d_src n' (nI n) d_kept u v' (nI i + 1) ∧ ∀ y j, y < i + 1 → j < n → kp y = nI j → v' j = nI y
    rw [lX4_look_53_s, if_neg (up_i (by omega) hi), rd_nI (by omega) (by decide)]
    rcases hsrc i hi with ⟨q1, q2⟩ | ⟨j0, q0, q1, q2⟩
    · rw [if_pos q1]
      refine ⟨v, rfl, fun y j hy hj hk => ?_⟩
      by_cases z : y = i
      · subst z
        rw [q2] at hk
        exact absurd hk.symm (nI_ne9 (by omega))
      · exact hI y j (by omega) hj hk
    · have hne : ¬ d_src i = -1 := by
        rw [q1]
        exact fun q => nI_pos (n := j0) (by omega) (by rw [q]; decide)
      rw [if_neg hne, rd_nI (by omega) (by decide), q1, wr_nI (by omega) (by decide)]
      refine ⟨_, rfl, fun y j hy hj hk => ?_⟩
      by_cases z : y = i
      · subst z
        have := nI_inj (by omega) (by omega) (q2.symm.trans hk)
        subst this
        rw [upd_s]
      · have hjj : j ≠ j0 := fun w => z (hu y i j (by omega) hi (by omega) hk (by rw [w]; exact q2))
        rw [upd_n hjj]
        exact hI y j (by omega) hj hk) (fun n' v hI => by
    show lX4_look_53 k_ac k_kinds d_kept (nI e) d_src (n' + 1) (nI n) d_kept u v (nI e) = _
    rw [lX4_look_53_s, if_pos (up_N (by omega))]) 5000 0 g_pos (Nat.zero_le _) (by omega) (fun y j h => absurd h (Nat.not_lt_zero y))
  exact ⟨u, v, hu1.trans hv1, hu2, hv2⟩
theorem e_ofKind (hn : n ≤ 5) {kinds : Nat → Int32} (hkd : ∀ i, i < n → kinds i = kd i) (k : Int32) : ∃ x, fX4_ofKind (nI n) kinds k = some x ∧ ∀ i, tb x i = true ↔ i < n ∧ kd i = k := by
  unfold fX4_ofKind
  obtain ⟨x, hx, hb⟩ := bits0 (g := fun n' acc i => lX4_ofKind_4 (nI n) kinds n' k acc i) (N := n) (P := fun i w => w = i ∧ kd i = k) (fun n' i acc hi => by
    show ∃ acc', lX4_ofKind_4 (nI n) kinds (n' + 1) k acc (nI i) = lX4_ofKind_4 (nI n) kinds n' k acc' (nI i + 1) ∧ _
    rw [lX4_ofKind_4_s, if_neg (up_i (by omega) hi), rd_nI (by omega) (by decide), hkd i hi]
    by_cases g : kd i = k
    · rw [if_pos g, e_bit, bn_s]
      refine ⟨_, rfl, fun w => ?_⟩
      rw [tb_ort, tb_bitt (by omega)]
      exact ⟨fun h => h.elim Or.inl (fun e => Or.inr ⟨e, g⟩), fun h => h.elim Or.inl (fun e => Or.inr e.1)⟩
    · rw [if_neg g]
      exact ⟨acc, rfl, fun w => ⟨Or.inl, fun h => h.elim id (fun e => absurd e.2 g)⟩⟩) (fun n' acc => by
    show lX4_ofKind_4 (nI n) kinds (n' + 1) k acc (nI n) = some acc
    rw [lX4_ofKind_4_s, if_pos (up_N (by omega))]) (by omega)
  exact ⟨x, hx, fun i => by rw [hb i, ex_self (P := fun i => kd i = k)]⟩
theorem e_staysEarlier (hn : n ≤ 5) (he : e ≤ 5) (hu : KU e kp) {pos : Nat → Int32} (hpos : ∀ y j, y < e → j < n → kp y = nI j → pos j = nI y) (x : Int32) {i j : Nat} (hi : i < n) (hj : j < i) (ei : evd x e kp i) (ej : evd x e kp j) : ∃ r, fX4_staysEarlier pos (nI j) (nI i) x = some r ∧ isb r (bef x e kp j i) := by
  unfold fX4_staysEarlier
  obtain ⟨r1, hr1, hb1⟩ := e_contains x (k := j) (by omega)
  obtain ⟨r2, hr2, hb2⟩ := e_contains x (k := i) (by omega)
  rw [hr1, bn_s]
  by_cases g1 : tb x j = true
  · rw [if_neg (fun q => (isb_0 hb1).mp q g1)]
    exact ⟨1, rfl, isb_t (Or.inl g1)⟩
  · rw [if_pos ((isb_0 hb1).mpr g1), hr2, bn_s]
    by_cases g2 : tb x i = true
    · rw [if_neg (fun q => (isb_0 hb2).mp q g2)]
      exact ⟨0, rfl, isb_f (fun q => q.elim g1 (fun z => z.1 g2))⟩
    · rw [if_pos ((isb_0 hb2).mpr g2)]
      obtain ⟨y, hy, hy2⟩ := ej.resolve_left g1
      obtain ⟨z, hz, hz2⟩ := ei.resolve_left g2
      rw [rd_nI (by omega) (by decide), rd_nI (by omega) (by decide), hpos y j hy (by omega) hy2, hpos z i hz hi hz2]
      by_cases g3 : z ≤ y
      · rw [if_pos (nI_le g3 (by omega))]
        refine ⟨0, rfl, isb_f (fun q => q.elim g1 ?_)⟩
        rintro ⟨-, y', z', b1, b2, b3, b4, b5⟩
        have := hu y y' j hy b1 (by omega) hy2 b3
        have := hu z z' i hz b2 (by omega) hz2 b4
        omega
      · rw [if_neg (nI_ge (by omega) (by omega))]
        exact ⟨1, rfl, isb_t (Or.inr ⟨g2, y, z, hy, hz, hy2, hz2, by omega⟩)⟩
theorem e_keepsOrder (hn : n ≤ 5) (he : e ≤ 5) (hu : KU e kp) {kinds pos : Nat → Int32} (hkd : ∀ i, i < n → kinds i = kd i) (hpos : ∀ y j, y < e → j < n → kp y = nI j → pos j = nI y) (hkt : ∀ k, tb d_kept k = true ↔ k < n ∧ keptI e kp k) (x : Int32) : ∃ r, fX4_keepsOrder (nI n) d_kept kinds pos x = some r ∧ isb r (∀ i, i < n → ∀ j, j < i → PR x e kp kd j i) := by
  unfold fX4_keepsOrder
  have hev : ∀ i, i < n → (tb (d_kept ||| x) i = true ↔ evd x e kp i) := fun i hi => by
    rw [tb_ort, hkt i]
    exact ⟨fun h => h.elim (fun z => Or.inr z.2) Or.inl, fun h => h.elim Or.inr (fun z => Or.inl ⟨hi, z⟩)⟩
  generalize d_kept ||| x = v at hev
  have inner : ∀ (k9 : Int32 → Int32 → Int32 → Option Int32) i, i < n → ((∀ j, j < i → PR x e kp kd j i) ∧ lX4_keepsOrder_20 (nI n) d_kept kinds pos k9 5000 x v (nI i) 0 = k9 x v (nI i + 1)) ∨ (¬ (∀ j, j < i → PR x e kp kd j i) ∧ lX4_keepsOrder_20 (nI n) d_kept kinds pos k9 5000 x v (nI i) 0 = some 0) := by
    intro k9 i hi
    have := all_k (g := fun n' j => lX4_keepsOrder_20 (nI n) d_kept kinds pos k9 n' x v (nI i) j) (N := i) (P := fun j => PR x e kp kd j i) (R := k9 x v (nI i + 1)) (E := some 0) (fun n' j hj => by
      show (_ → lX4_keepsOrder_20 (nI n) d_kept kinds pos k9 (n' + 1) x v (nI i) (nI j) = lX4_keepsOrder_20 (nI n) d_kept kinds pos k9 n' x v (nI i) (nI j + 1)) ∧ (_ → lX4_keepsOrder_20 (nI n) d_kept kinds pos k9 (n' + 1) x v (nI i) (nI j) = some 0)
      rw [lX4_keepsOrder_20_s, if_neg (up_i (by omega) hj)]
      unfold jX4_keepsOrder_47 jX4_keepsOrder_48 jX4_keepsOrder_78 jX4_keepsOrder_79
      obtain ⟨r1, hr1, hb1⟩ := e_contains v (k := j) (by omega)
      obtain ⟨r2, hr2, hb2⟩ := e_contains v (k := i) (by omega)
      rw [hr1, bn_s]
      by_cases g1 : evd x e kp j
      · rw [if_neg (fun q => (isb_0 hb1).mp q ((hev j (by omega)).mpr g1)), hr2, bn_s]
        by_cases g2 : evd x e kp i
        · rw [if_neg (fun q => (isb_0 hb2).mp q ((hev i hi).mpr g2)), if_neg (by decide), rd_nI (by omega) (by decide), rd_nI (by omega) (by decide), hkd i hi, hkd j (by omega)]
          obtain ⟨r3, hr3, hb3⟩ := e_conflict (kd j) (kd i)
          rw [hr3, bn_s]
          by_cases g3 : conf (kd j) (kd i)
          · rw [if_neg (fun q => (isb_0 hb3).mp q g3), if_neg (by decide)]
            obtain ⟨r4, hr4, hb4⟩ := e_staysEarlier hn he hu hpos x hi hj g2 g1
            rw [hr4, bn_s]
            by_cases g4 : bef x e kp j i
            · rw [if_neg (fun q => (isb_0 hb4).mp q g4)]
              exact ⟨fun _ => rfl, fun h => absurd (fun _ _ _ => g4) h⟩
            · rw [if_pos ((isb_0 hb4).mpr g4)]
              exact ⟨fun h => absurd (h (conf_symm.mp g3) g2 g1) g4, fun _ => rfl⟩
          · rw [if_pos ((isb_0 hb3).mpr g3), if_pos rfl]
            exact ⟨fun _ => rfl, fun h => absurd (fun q => absurd (conf_symm.mp q) g3) h⟩
        · rw [if_pos ((isb_0 hb2).mpr (fun q => g2 ((hev i hi).mp q))), if_pos rfl, if_pos rfl]
          exact ⟨fun _ => rfl, fun h => absurd (fun _ q => absurd q g2) h⟩
      · rw [if_pos ((isb_0 hb1).mpr (fun q => g1 ((hev j (by omega)).mp q))), if_pos rfl, if_pos rfl]
        exact ⟨fun _ => rfl, fun h => absurd (fun _ _ q => absurd q g1) h⟩) (fun n' => by
      show lX4_keepsOrder_20 (nI n) d_kept kinds pos k9 (n' + 1) x v (nI i) (nI i) = k9 x v (nI i + 1)
      rw [lX4_keepsOrder_20_s, if_pos (up_N (by omega))]) 5000 0 (Nat.zero_le _) (by omega)
    rcases this with ⟨h1, h2⟩ | ⟨⟨t, h1, h2, h3⟩, h4⟩
    · exact Or.inl ⟨fun j hj => h1 j (Nat.zero_le j) hj, h2⟩
    · exact Or.inr ⟨fun q => h3 (q t h2), h4⟩
  by_cases hn1 : 1 ≤ n
  · have := all_k (g := fun n' i => lX4_keepsOrder_9 (nI n) d_kept kinds pos n' x v i) (N := n) (P := fun i => ∀ j, j < i → PR x e kp kd j i) (R := some 1) (E := some 0) (fun n' i hi => by
      show (_ → lX4_keepsOrder_9 (nI n) d_kept kinds pos (n' + 1) x v (nI i) = lX4_keepsOrder_9 (nI n) d_kept kinds pos n' x v (nI i + 1)) ∧ (_ → lX4_keepsOrder_9 (nI n) d_kept kinds pos (n' + 1) x v (nI i) = some 0)
      rw [lX4_keepsOrder_9_s, if_neg (up_i (by omega) hi)]
      rcases inner (fun u1 u2 u3 => lX4_keepsOrder_9 (nI n) d_kept kinds pos n' u1 u2 u3) i hi with ⟨h1, h2⟩ | ⟨h1, h2⟩
      · exact ⟨fun _ => h2, fun q => absurd h1 q⟩
      · exact ⟨fun q => absurd q h1, fun _ => h2⟩) (fun n' => by
      show lX4_keepsOrder_9 (nI n) d_kept kinds pos (n' + 1) x v (nI n) = some 1
      rw [lX4_keepsOrder_9_s, if_pos (up_N (by omega))]) 5000 1 hn1 (by omega)
    rcases this with ⟨h1, h2⟩ | ⟨⟨t, h1, h2, h3⟩, h4⟩
    · refine ⟨1, h2, isb_t (fun i hi => ?_)⟩
      by_cases z : i = 0
      · subst z
        exact fun j hj => absurd hj (Nat.not_lt_zero j)
      · exact h1 i (by omega) hi
    · exact ⟨0, h4, isb_f (fun q => h3 (q t h2))⟩
  · have : n = 0 := by omega
    subst this
    refine ⟨1, ?_, isb_t (fun i hi => absurd hi (Nat.not_lt_zero i))⟩
    rw [lX4_keepsOrder_9_s, if_pos (by decide)]
end CH
