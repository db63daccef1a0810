/-! dispatch -/
theorem find_loop {g : Nat → Int32 → Option Int32} {N : Nat} {P : Nat → Prop} {Q : Nat → Int32 → Prop} (hs : ∀ n i, i < N → (P i → ∃ r, g (n + 1) (nI i) = some r ∧ Q i r) ∧ (¬ P i → g (n + 1) (nI i) = g n (nI i + 1))) (he : ∀ n, g (n + 1) (nI N) = some (-9)) : ∀ n i, i ≤ N → N - i < n → (∀ j, j < i → ¬ P j) → ∃ r, g n (nI i) = some r ∧ ((∃ t, t < N ∧ P t ∧ Q t r ∧ ∀ u, u < t → ¬ P u) ∨ (r = -9 ∧ ∀ u, u < N → ¬ P u)) := by
  intro n
  induction n with
  | zero => intro i _ h; omega
  | succ n ih =>
    intro i hi hn hj
    by_cases hlt : i < N
    · by_cases hp : P i
      · obtain ⟨r, h1, h2⟩ := (hs n i hlt).1 hp
        exact ⟨r, h1, Or.inl ⟨i, hlt, hp, h2, hj⟩⟩
      · rw [(hs n i hlt).2 hp, nI_1]
        refine ih (i + 1) hlt (by omega) (fun j hj2 => ?_)
        by_cases e : j = i
        · rw [e]; exact hp
        · exact hj j (by omega)
    · have : i = N := by omega
      subst this
      exact ⟨-9, he n, Or.inr ⟨rfl, hj⟩⟩
section D1
variable {s : Nat → Int32} {nt nm : Nat} {t_count t_ifs : Int32} {t_sup : Nat → Int32} {m_count : Int32} {m_type m_name m_arity m_keys m_defs : Nat → Int32}
/-- an interface's supertypes are interfaces -/
theorem if_up (hw : WFT s nt) {a b : Nat} (ha : a < nt) (hi : s (1 + 3 * a) = 1) (h : up s a b) : b < nt ∧ s (1 + 3 * b) = 1 := by
  refine h (fun b => b < nt ∧ s (1 + 3 * b) = 1) ⟨ha, hi⟩ (fun x y hx hd => ?_)
  obtain ⟨h1, h2⟩ : x < nt ∧ s (1 + 3 * x) = 1 := hx
  obtain ⟨w1, w2, w3⟩ := hw.2.2 x h1
  show y < nt ∧ s (1 + 3 * y) = 1
  rcases hd with ⟨d1, d2⟩ | d
  · rcases w2 with w2 | ⟨p, hp, w2, w4, -⟩
    · have h8 := hw.1
      rw [w2] at d2
      exact absurd d2.symm (fun q => nI_pos (n := y) (by omega) (by rw [q]; decide))
    · rw [h2] at w4
      exact absurd w4 (by decide)
  · have := w3 y d
    exact ⟨by omega, this.2⟩
def Pd (s : Nat → Int32) (n a : Int32) (t m : Nat) : Prop := nT s m = t ∧ sg s m n a
def cls (s : Nat → Int32) (d t : Nat) : Prop := up s d t ∧ s (1 + 3 * t) = 0
def okI (s : Nat → Int32) (nt nm : Nat) (n a : Int32) (d t : Nat) : Prop := (s (1 + 3 * t) = 1 ∧ up s d t ∧ ∃ m, m < nm ∧ Pd s n a t m) ∧ ¬ ∃ u, u < nt ∧ (u ≠ t ∧ s (1 + 3 * u) = 1 ∧ up s d u ∧ ∃ m, m < nm ∧ Pd s n a u m) ∧ up s u t
def IR (s : Nat → Int32) (nt nm : Nat) (n a : Int32) (d : Nat) (r : Int32) : Prop := (∃ t, t < nt ∧ okI s nt nm n a d t ∧ lst (Pd s n a t) nm r ∧ ∀ u, u < t → ¬ okI s nt nm n a d u) ∨ (r = -9 ∧ ∀ u, u < nt → ¬ okI s nt nm n a d u)
def DR (s : Nat → Int32) (nt nm : Nat) (n a : Int32) (d : Nat) (r : Int32) : Prop := (∃ t, cls s d t ∧ (∃ m, m < nm ∧ Pd s n a t m) ∧ lst (Pd s n a t) nm r ∧ ∀ u, t < u → cls s d u → ∀ m, m < nm → ¬ Pd s n a u m) ∨ ((∀ u, cls s d u → ∀ m, m < nm → ¬ Pd s n a u m) ∧ IR s nt nm n a d r)
theorem IR_uniq {n a : Int32} {d : Nat} {r r' : Int32} (h : IR s nt nm n a d r) (h' : IR s nt nm n a d r') : r = r' := by
  rcases h with ⟨t, h1, h2, h3, h4⟩ | ⟨h1, h2⟩ <;> rcases h' with ⟨t', g1, g2, g3, g4⟩ | ⟨g1, g2⟩
  · have : t = t' := by
      rcases Nat.lt_trichotomy t t' with z | z | z
      · exact absurd h2 (g4 t z)
      · exact z
      · exact absurd g2 (h4 t' z)
    subst this
    exact lst_eq (fun _ _ => Iff.rfl) h3 g3
  · exact absurd h2 (g2 t h1)
  · exact absurd g2 (h2 t' g1)
  · rw [h1, g1]
theorem DR_uniq {n a : Int32} {d : Nat} {r r' : Int32} (h : DR s nt nm n a d r) (h' : DR s nt nm n a d r') : r = r' := by
  rcases h with ⟨t, h1, ⟨m, hm, hp⟩, h3, h4⟩ | ⟨h1, h2⟩ <;> rcases h' with ⟨t', g1, ⟨m', hm', hp'⟩, g3, g4⟩ | ⟨g1, g2⟩
  · have : t = t' := by
      rcases Nat.lt_trichotomy t t' with z | z | z
      · exact absurd hp' (h4 t' z g1 m' hm')
      · exact z
      · exact absurd hp (g4 t z h1 m hm)
    subst this
    exact lst_eq (fun _ _ => Iff.rfl) h3 g3
  · exact absurd hp (g1 t h1 m hm)
  · exact absurd hp' (h1 t' g1 m' hm')
  · exact IR_uniq h2 g2
theorem lst_some {P : Nat → Prop} {N m : Nat} {r : Int32} (hm : m < N) (hp : P m) (h : lst P N r) : ∃ k, k < N ∧ P k ∧ r = nI k := by
  rcases h with ⟨k, h1, h2, _, h4⟩ | ⟨h1, h2⟩
  · exact ⟨k, h1, h2, h4⟩
  · exact absurd hp (h2 m hm)
theorem DR_cases {n a : Int32} {d : Nat} {r : Int32} (h : DR s nt nm n a d r) : r = -9 ∨ ∃ m, m < nm ∧ sg s m n a ∧ r = nI m := by
  rcases h with ⟨t, h1, ⟨m, hm, hp⟩, h3, h4⟩ | ⟨h1, ⟨t, g1, g2, g3, g4⟩ | ⟨h2, _⟩⟩
  · obtain ⟨k, k1, k2, k3⟩ := lst_some hm hp h3
    exact Or.inr ⟨k, k1, k2.2, k3⟩
  · obtain ⟨m, hm, hp⟩ := g2.1.2.2
    obtain ⟨k, k1, k2, k3⟩ := lst_some hm hp g3
    exact Or.inr ⟨k, k1, k2.2, k3⟩
  · exact Or.inl h2
theorem e_isOverridden (hw : WFT s nt) (hm : WFM s nt nm) {m d g : Nat} (hmm : m < nm) (hd : d < nt) (hg : g < nm) : ∃ r, fX9_isOverridden s (nI m) (nI d) (nI g) = some r ∧ isb r (∃ u, u < nt ∧ (u ≠ nT s m ∧ s (1 + 3 * u) = 1 ∧ up s d u ∧ ∃ k, k < nm ∧ Pd s (rM s g 1) (rM s g 2) u k) ∧ up s u (nT s m)) := by
  have h8 := hw.1
  have h16 := hm.1
  obtain ⟨wm, wm2, -⟩ := hm.2.2 m hmm
  unfold fX9_isOverridden
  obtain ⟨r, hr, hb⟩ := inv_loop (g := fun n' y i => lX9_isOverridden_6 s n' (nI m) (nI d) (nI g) y i) (N := nt) (fun i y => isb y (∃ u, u < i ∧ (u ≠ nT s m ∧ s (1 + 3 * u) = 1 ∧ up s d u ∧ ∃ k, k < nm ∧ Pd s (rM s g 1) (rM s g 2) u k) ∧ up s u (nT s m))) (K := rb) (fun n' i y hi hI => by
    have hI : isb y (∃ u, u < i ∧ (u ≠ nT s m ∧ s (1 + 3 * u) = 1 ∧ up s d u ∧ ∃ k, k < nm ∧ Pd s (rM s g 1) (rM s g 2) u k) ∧ up s u (nT s m)) := hI
    show ∃ y', lX9_isOverridden_6 s (n' + 1) (nI m) (nI d) (nI g) y (nI i) = lX9_isOverridden_6 s n' (nI m) (nI d) (nI g) y' (nI i + 1) ∧ isb y' (∃ u, u < i + 1 ∧ (u ≠ nT s m ∧ s (1 + 3 * u) = 1 ∧ up s d u ∧ ∃ k, k < nm ∧ Pd s (rM s g 1) (rM s g 2) u k) ∧ up s u (nT s m))
    rw [lX9_isOverridden_6_s, rd_l0, hw.2.1, if_neg (up_i (by omega) hi), e_of0 (by omega), bn_s, wm]
    have fin : ∀ s0 : Int32, isb s0 (i ≠ nT s m ∧ s (1 + 3 * i) = 1 ∧ up s d i ∧ ∃ k, k < nm ∧ Pd s (rM s g 1) (rM s g 2) i k) → ∃ y', jX9_isOverridden_67 s (fun u1 u2 u3 u4 u5 => lX9_isOverridden_6 s n' u1 u2 u3 u4 u5) (nI m) (nI d) (nI g) y (nI i) s0 = lX9_isOverridden_6 s n' (nI m) (nI d) (nI g) y' (nI i + 1) ∧ isb y' (∃ u, u < i + 1 ∧ (u ≠ nT s m ∧ s (1 + 3 * u) = 1 ∧ up s d u ∧ ∃ k, k < nm ∧ Pd s (rM s g 1) (rM s g 2) u k) ∧ up s u (nT s m)) := by
      intro s0 h0
      unfold jX9_isOverridden_67 jX9_isOverridden_101 jX9_isOverridden_97 jX9_isOverridden_102
      rcases hI with ⟨rfl, hp⟩ | ⟨rfl, hp⟩
      · rw [if_neg (by decide)]
        exact ⟨1, rfl, isb_t (ex_succ.mpr (Or.inl hp))⟩
      · rw [if_pos rfl]
        rcases h0 with ⟨rfl, hq⟩ | ⟨rfl, hq⟩
        · rw [if_neg (by decide)]
          obtain ⟨x, hx, hxb⟩ := e_supers hw hi
          rw [hx, bn_s, e_of0 (by omega), bn_s, wm]
          obtain ⟨r, hr, hb⟩ := e_has x (k := nT s m) (by omega)
          rw [hr, bn_s]
          by_cases g1 : up s i (nT s m)
          · rw [if_neg (fun q => (isb_0 hb).mp q ((hxb _).mpr g1))]
            exact ⟨1, rfl, isb_t (ex_succ.mpr (Or.inr ⟨hq, g1⟩))⟩
          · rw [if_pos ((isb_0 hb).mpr (fun q => g1 ((hxb _).mp q)))]
            exact ⟨0, rfl, isb_f (fun q => (ex_succ.mp q).elim hp (fun z => g1 z.2))⟩
        · rw [if_pos rfl]
          exact ⟨0, rfl, isb_f (fun q => (ex_succ.mp q).elim hp (fun z => hq z.1))⟩
    unfold jX9_isOverridden_66
    by_cases g0 : i = nT s m
    · rw [if_pos (by rw [g0])]
      exact fin 0 (isb_f (fun q => q.1 g0))
    · rw [if_neg (fun q => g0 (nI_inj (by omega) (by omega) q))]
      obtain ⟨r1, hr1, hb1⟩ := e_isInterface (s := s) (t := i) (by omega)
      rw [hr1, bn_s]
      by_cases g1 : s (1 + 3 * i) = 1
      · rw [if_neg (fun q => (isb_0 hb1).mp q g1)]
        obtain ⟨x, hx, hxb⟩ := e_supers hw hd
        rw [hx, bn_s]
        obtain ⟨r2, hr2, hb2⟩ := e_has x (k := i) (by omega)
        rw [hr2, bn_s]
        by_cases g2 : up s d i
        · rw [if_neg (fun q => (isb_0 hb2).mp q ((hxb _).mpr g2))]
          obtain ⟨r3, hr3, hl⟩ := e_declaredBy hw hm hi hg
          rw [hr3, bn_s]
          by_cases g3 : r3 = -9
          · rw [if_pos g3]
            exact fin 0 (isb_f (fun ⟨_, _, _, k, k1, k2⟩ => (lst_none (by omega) hl).mp g3 k k1 k2))
          · rw [if_neg g3]
            exact fin 1 (isb_t ⟨g0, g1, g2, Classical.byContradiction (fun q => g3 ((lst_none (by omega) hl).mpr (fun k k1 k2 => q ⟨k, k1, k2⟩)))⟩)
        · rw [if_pos ((isb_0 hb2).mpr (fun q => g2 ((hxb _).mp q)))]
          exact fin 0 (isb_f (fun q => g2 q.2.2.1))
      · rw [if_pos ((isb_0 hb1).mpr g1)]
        exact fin 0 (isb_f (fun q => g1 q.2.1))) (fun n' y hI => by
    show lX9_isOverridden_6 s (n' + 1) (nI m) (nI d) (nI g) y (nI nt) = rb y
    rw [lX9_isOverridden_6_s, rd_l0, hw.2.1, if_pos (up_N (by omega))]) 5000 0 0 (Nat.zero_le _) (by omega) (isb_f ex_zero)
  exact ⟨r, hr.trans (isb_rb hb), hb⟩
theorem disp_if (hw : WFT s nt) (hm : WFM s nt nm) {d g : Nat} (hd : d < nt) (hg : g < nm) : ∃ r, lX9_dispatched_72 s 5000 (nI g) (nI d) 0 = some r ∧ IR s nt nm (rM s g 1) (rM s g 2) d r := by
  have h8 := hw.1
  have h16 := hm.1
  refine find_loop (g := fun n' i => lX9_dispatched_72 s n' (nI g) (nI d) i) (N := nt) (P := okI s nt nm (rM s g 1) (rM s g 2) d) (Q := fun t r => lst (Pd s (rM s g 1) (rM s g 2) t) nm r) (fun n' i hi => ?_) (fun n' => ?_) 5000 0 (Nat.zero_le _) (by omega) (fun j h => absurd h (Nat.not_lt_zero j))
  · show (_ → ∃ r, lX9_dispatched_72 s (n' + 1) (nI g) (nI d) (nI i) = some r ∧ lst (Pd s (rM s g 1) (rM s g 2) i) nm r) ∧ (_ → lX9_dispatched_72 s (n' + 1) (nI g) (nI d) (nI i) = lX9_dispatched_72 s n' (nI g) (nI d) (nI i + 1))
    rw [lX9_dispatched_72_s, rd_l0, hw.2.1, if_neg (up_i (by omega) hi)]
    unfold jX9_dispatched_115 jX9_dispatched_117
    obtain ⟨r1, hr1, hb1⟩ := e_isInterface (s := s) (t := i) (by omega)
    rw [hr1, bn_s]
    by_cases g1 : s (1 + 3 * i) = 1
    · rw [if_neg (fun q => (isb_0 hb1).mp q g1)]
      obtain ⟨x, hx, hxb⟩ := e_supers hw hd
      rw [hx, bn_s]
      obtain ⟨r2, hr2, hb2⟩ := e_has x (k := i) (by omega)
      rw [hr2, bn_s]
      by_cases g2 : up s d i
      · rw [if_neg (fun q => (isb_0 hb2).mp q ((hxb _).mpr g2))]
        obtain ⟨r3, hr3, hl⟩ := e_declaredBy hw hm hi hg
        have hl' : lst (Pd s (rM s g 1) (rM s g 2) i) nm r3 := hl
        rw [hr3, bn_s]
        by_cases g3 : r3 = -9
        · rw [if_pos g3]
          exact ⟨fun ⟨⟨_, _, k, k1, k2⟩, _⟩ => absurd k2 ((lst_none (by omega) hl').mp g3 k k1), fun _ => rfl⟩
        · rw [if_neg g3]
          rcases hl with ⟨m, m1, m2, m3, rfl⟩ | ⟨q, _⟩
          · obtain ⟨r4, hr4, hb4⟩ := e_isOverridden hw hm m1 hd hg
            rw [hr4, bn_s]
            rw [m2.1] at hb4
            by_cases g4 : ∃ u, u < nt ∧ (u ≠ i ∧ s (1 + 3 * u) = 1 ∧ up s d u ∧ ∃ k, k < nm ∧ Pd s (rM s g 1) (rM s g 2) u k) ∧ up s u i
            · rw [if_neg (fun q => (isb_0 hb4).mp q g4)]
              exact ⟨fun h => absurd g4 h.2, fun _ => rfl⟩
            · rw [if_pos ((isb_0 hb4).mpr g4)]
              exact ⟨fun _ => ⟨_, rfl, hl'⟩, fun h => absurd ⟨⟨g1, g2, m, m1, m2⟩, g4⟩ h⟩
          · exact absurd q g3
      · rw [if_pos ((isb_0 hb2).mpr (fun q => g2 ((hxb _).mp q))), if_pos rfl]
        exact ⟨fun h => absurd h.1.2.1 g2, fun _ => rfl⟩
    · rw [if_pos ((isb_0 hb1).mpr g1), if_pos rfl]
      exact ⟨fun h => absurd h.1.1 g1, fun _ => rfl⟩
  · show lX9_dispatched_72 s (n' + 1) (nI g) (nI d) (nI nt) = some (-9)
    rw [lX9_dispatched_72_s, rd_l0, hw.2.1, if_pos (up_N (by omega))]
/-- a class under a class's superclass, or that class -/
theorem cls_step (hw : WFT s nt) {t u : Nat} (ht : t < nt) (hne : u ≠ t) (hu : up s t u) (hc : s (1 + 3 * u) = 0) : ∃ p, p < t ∧ s (1 + 3 * t + 1) = nI p ∧ up s p u := by
  rcases up_cases hu with e | ⟨b, hb, hbu⟩
  · exact absurd e.symm hne
  · rcases hb with ⟨h1, h2⟩ | h
    · exact ⟨b, h1, h2, hbu⟩
    · have w := (hw.2.2 t ht).2.2 b h
      have := (if_up hw (by omega) w.2 hbu).2
      rw [hc] at this
      exact absurd this (by decide)
theorem disp_cls (hw : WFT s nt) (hm : WFM s nt nm) {d g : Nat} (hd : d < nt) (hg : g < nm) : ∀ n t, t < nt → t + 1 < n → cls s d t → (∀ u, cls s d u → u ≤ t → up s t u) → (∀ u, t < u → cls s d u → ∀ m, m < nm → ¬ Pd s (rM s g 1) (rM s g 2) u m) → ∃ r, lX9_dispatched_27 s n (nI g) (nI d) (nI t) = some r ∧ DR s nt nm (rM s g 1) (rM s g 2) d r := by
  have h8 := hw.1
  have h16 := hm.1
  intro n
  induction n with
  | zero => intro t _ h; omega
  | succ n ih =>
    intro t ht hn hct hall hno
    rw [lX9_dispatched_27_s, if_neg (nI_pos (by omega))]
    obtain ⟨r3, hr3, hl⟩ := e_declaredBy hw hm ht hg
    have hl' : lst (Pd s (rM s g 1) (rM s g 2) t) nm r3 := hl
    rw [hr3, bn_s]
    by_cases g3 : r3 = -9
    · rw [if_pos g3, ixT1, rd_nI (by omega) (by decide)]
      have hnt : ∀ m, m < nm → ¬ Pd s (rM s g 1) (rM s g 2) t m := (lst_none (by omega) hl').mp g3
      rcases (hw.2.2 t ht).2.1 with w | ⟨p, hp, w, w2, w3⟩
      · rw [w]
        obtain ⟨n, rfl⟩ : ∃ q, n = q + 1 := ⟨n - 1, by omega⟩
        rw [lX9_dispatched_27_s, if_pos (by decide)]
        obtain ⟨r, hr, hir⟩ := disp_if hw hm hd hg
        refine ⟨r, hr, Or.inr ⟨fun u hu => ?_, hir⟩⟩
        rcases Nat.lt_trichotomy t u with z | z | z
        · exact hno u z hu
        · rw [← z]; exact hnt
        · obtain ⟨p, _, q, _⟩ := cls_step hw ht (by omega) (hall u hu (by omega)) hu.2
          rw [w] at q
          exact absurd q.symm (fun q => nI_pos (n := p) (by omega) (by rw [q]; decide))
      · rw [w]
        refine ih p (by omega) (by omega) ⟨up_dir hct.1 (Or.inl ⟨hp, w⟩), w3⟩ (fun u hu hle => ?_) (fun u hlt hu => ?_)
        · obtain ⟨p', _, q, q2⟩ := cls_step hw ht (by omega) (hall u hu (by omega)) hu.2
          rw [w] at q
          rw [nI_inj (by omega) (by omega) q]
          exact q2
        · rcases Nat.lt_trichotomy t u with z | z | z
          · exact hno u z hu
          · rw [← z]; exact hnt
          · obtain ⟨p', hp', q, q2⟩ := cls_step hw ht (by omega) (hall u hu (by omega)) hu.2
            rw [w] at q
            have := nI_inj (by omega) (by omega) q
            subst this
            have := up_le hw (by omega) q2
            omega
    · rw [if_neg g3]
      refine ⟨r3, rfl, Or.inl ⟨t, hct, ?_, hl', hno⟩⟩
      exact Classical.byContradiction (fun q => g3 ((lst_none (by omega) hl').mpr (fun k k1 k2 => q ⟨k, k1, k2⟩)))
end D1
