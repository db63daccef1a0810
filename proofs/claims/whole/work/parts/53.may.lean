/-! what may be hoisted: the reference -/
def cn (k : Int32) : Prop := k = 1 ∨ k = 2
def conf (a b : Int32) : Prop := cn a ∧ cn b ∧ (a = 2 ∨ b = 2)
def keptI (e : Nat) (kp : Nat → Int32) (i : Nat) : Prop := ∃ y, y < e ∧ kp y = nI i
def evd (x : Int32) (e : Nat) (kp : Nat → Int32) (i : Nat) : Prop := tb x i = true ∨ keptI e kp i
def bef (x : Int32) (e : Nat) (kp : Nat → Int32) (j i : Nat) : Prop := tb x j = true ∨ (¬ tb x i = true ∧ ∃ y z, y < e ∧ z < e ∧ kp y = nI j ∧ kp z = nI i ∧ y < z)
def UR (x : Int32) (e : Nat) (kp kd : Nat → Int32) (i : Nat) : Prop := (tb x i = true → cn (kd i)) ∧ (kd i = 2 → ¬ keptI e kp i → tb x i = true) ∧ (kd i = 1 → ¬ keptI e kp i → ¬ tb x i = true)
def PR (x : Int32) (e : Nat) (kp kd : Nat → Int32) (j i : Nat) : Prop := conf (kd i) (kd j) → evd x e kp i → evd x e kp j → bef x e kp j i
def MH (x : Int32) (n e : Nat) (kp kd : Nat → Int32) : Prop := ∀ i, i < n → UR x e kp kd i ∧ ∀ j, j < i → PR x e kp kd j i
def VH (n e : Nat) (kp kd : Nat → Int32) (i : Nat) : Prop := i < 2 ^ n ∧ MH (nI i) n e kp kd
def KU (e : Nat) (kp : Nat → Int32) : Prop := ∀ y z i, y < e → z < e → i < 32 → kp y = nI i → kp z = nI i → y = z
section MY
variable {s : Nat → Int32} {c n e : Nat} {kp kd : Nat → Int32}
theorem e_kindOf9 (hc : c < 8) {i : Nat} (hi : i < 24) : fX9_kindOf s (nI c) (nI i) = some (rC s c (5 + i)) := by
  unfold fX9_kindOf
  rw [o5, e_at rfl, bn_s, rd_C (by omega) (by omega)]
theorem e_doesCount (hc : c < 8) {i : Nat} (hi : i < 24) : ∃ r, fX9_doesCount s (nI c) (nI i) = some r ∧ isb r (cn (rC s c (5 + i))) := by
  unfold fX9_doesCount
  rw [e_kindOf9 hc hi, bn_s, bn_s]
  by_cases g1 : rC s c (5 + i) = 1
  · rw [if_pos g1]
    exact ⟨1, rfl, isb_t (Or.inl g1)⟩
  · rw [if_neg g1]
    by_cases g2 : rC s c (5 + i) = 2
    · rw [if_pos g2]
      exact ⟨1, rfl, isb_t (Or.inr g2)⟩
    · rw [if_neg g2]
      exact ⟨0, rfl, isb_f (fun q => q.elim g1 g2)⟩
def TR (x : Int32) (e : Nat) (kp : Nat → Int32) (i : Nat) (r : Int32) : Prop := (tb x i = true ∧ r = nI i) ∨ (¬ tb x i = true ∧ ∃ y, y < e ∧ kp y = nI i ∧ r = nI (10 + y)) ∨ (¬ tb x i = true ∧ ¬ keptI e kp i ∧ r = -9)
theorem e_turnOf (he : e ≤ 5) (x : Int32) {i : Nat} (hi : i < 32) : ∃ r, fX9_turnOf (nI e) kp (nI i) x = some r ∧ TR x e kp i r := by
  unfold fX9_turnOf
  obtain ⟨r1, hr1, hb1⟩ := e_has x (k := i) hi
  rw [hr1, bn_s]
  by_cases g1 : tb x i = true
  · rw [if_neg (fun q => (isb_0 hb1).mp q g1)]
    exact ⟨_, rfl, Or.inl ⟨g1, rfl⟩⟩
  · rw [if_pos ((isb_0 hb1).mpr g1)]
    obtain ⟨r2, hr2, hl⟩ := e_entryOf he kp (nI i)
    rw [hr2, bn_s, bn_s]
    rcases hl with ⟨y, h1, h2, h3, rfl⟩ | ⟨rfl, h2⟩
    · rw [if_neg (nI_ne9 (by omega)), show (10 : Int32) + nI y = nI (10 + y) from nI_add 10 y]
      exact ⟨_, rfl, Or.inr (Or.inl ⟨g1, y, h1, h2, rfl⟩)⟩
    · rw [if_pos rfl]
      exact ⟨_, rfl, Or.inr (Or.inr ⟨g1, fun ⟨y, h3, h4⟩ => h2 y h3 h4, rfl⟩)⟩
theorem tr_9 {x : Int32} {i : Nat} {r : Int32} (he : e ≤ 5) (hi : i < 32) (h : TR x e kp i r) : r = -9 ↔ ¬ evd x e kp i := by
  rcases h with ⟨h1, rfl⟩ | ⟨h1, y, h2, h3, rfl⟩ | ⟨h1, h2, rfl⟩
  · exact ⟨fun q => absurd q (nI_ne9 (by omega)), fun q => absurd (Or.inl h1) q⟩
  · exact ⟨fun q => absurd q (nI_ne9 (by omega)), fun q => absurd (Or.inr ⟨y, h2, h3⟩) q⟩
  · exact ⟨fun _ q => q.elim h1 h2, fun _ => rfl⟩
theorem tr_le {x : Int32} {i j : Nat} {ri rj : Int32} (he : e ≤ 5) (hu : KU e kp) (hi : i < 5) (hj : j < i) (h : TR x e kp i ri) (h' : TR x e kp j rj) (e1 : evd x e kp i) (e2 : evd x e kp j) : ri ≤ rj ↔ ¬ bef x e kp j i := by
  rcases h with ⟨h1, rfl⟩ | ⟨h1, y, h2, h3, rfl⟩ | ⟨h1, h2, rfl⟩
  · rcases h' with ⟨g1, rfl⟩ | ⟨g1, z, g2, g3, rfl⟩ | ⟨g1, g2, rfl⟩
    · rw [nI_leI (by omega) (by omega)]
      exact ⟨fun q => absurd q (by omega), fun q => absurd (Or.inl g1) q⟩
    · rw [nI_leI (by omega) (by omega)]
      exact ⟨fun _ q => q.elim g1 (fun z => z.1 h1), fun _ => by omega⟩
    · exact absurd e2 (fun q => q.elim g1 g2)
  · rcases h' with ⟨g1, rfl⟩ | ⟨g1, z, g2, g3, rfl⟩ | ⟨g1, g2, rfl⟩
    · rw [nI_leI (by omega) (by omega)]
      exact ⟨fun q => absurd q (by omega), fun q => absurd (Or.inl g1) q⟩
    · rw [nI_leI (by omega) (by omega)]
      constructor
      · rintro q (b | ⟨-, y', z', b1, b2, b3, b4, b5⟩)
        · exact g1 b
        · have := hu z y' j g2 b1 (by omega) g3 b3
          have := hu y z' i h2 b2 (by omega) h3 b4
          omega
      · intro q
        rcases Nat.lt_or_ge z y with w | w
        · exact absurd (Or.inr ⟨h1, z, y, g2, h2, g3, h3, w⟩) q
        · omega
    · exact absurd e2 (fun q => q.elim g1 g2)
  · exact absurd e1 (fun q => q.elim h1 h2)
theorem may_both (he : e ≤ 5) (k18 : Int32 → Int32 → Int32 → Int32 → Int32 → Option Int32) (k122 : Int32 → Int32 → Int32 → Int32 → Int32 → Int32 → Option Int32) (y1 x y3 y4 : Int32) {i j : Nat} (hi : i < 5) (hj : j < 5) (cf : Int32) : ∃ bo, jX9_mayHoist_176 s (nI e) kp k18 k122 y1 x y3 y4 (nI i) (nI j) cf = jX9_mayHoist_207 s (nI e) kp k18 k122 y1 x y3 y4 (nI i) (nI j) cf bo ∧ isb bo (evd x e kp i ∧ evd x e kp j) := by
  unfold jX9_mayHoist_176 jX9_mayHoist_206
  obtain ⟨ri, h1, h2⟩ := e_turnOf (kp := kp) he x (i := i) (by omega)
  obtain ⟨rj, h3, h4⟩ := e_turnOf (kp := kp) he x (i := j) (by omega)
  rw [h1, bn_s, h3, bn_s]
  by_cases g1 : ri = -9
  · rw [if_pos g1]
    exact ⟨0, rfl, isb_f (fun q => (tr_9 he (by omega) h2).mp g1 q.1)⟩
  · rw [if_neg g1]
    by_cases g2 : rj = -9
    · rw [if_pos g2]
      exact ⟨0, rfl, isb_f (fun q => (tr_9 he (by omega) h4).mp g2 q.2)⟩
    · rw [if_neg g2]
      exact ⟨1, rfl, isb_t ⟨Classical.byContradiction (fun q => g1 ((tr_9 he (by omega) h2).mpr q)), Classical.byContradiction (fun q => g2 ((tr_9 he (by omega) h4).mpr q))⟩⟩
theorem may_pair (he : e ≤ 5) (hu : KU e kp) (k18 : Int32 → Int32 → Int32 → Int32 → Int32 → Option Int32) (k122 : Int32 → Int32 → Int32 → Int32 → Int32 → Int32 → Option Int32) (y1 x y3 y4 : Int32) {i j : Nat} (hi : i < 5) (hj : j < i) {cf bo : Int32} {A B : Prop} (h4 : isb y4 A) (hcf : isb cf B) (hbo : isb bo (evd x e kp i ∧ evd x e kp j)) : ∃ y', jX9_mayHoist_207 s (nI e) kp k18 k122 y1 x y3 y4 (nI i) (nI j) cf bo = k122 y1 x y3 y' (nI i) (nI j + 1) ∧ isb y' (A ∧ (B → evd x e kp i → evd x e kp j → bef x e kp j i)) := by
  unfold jX9_mayHoist_207 jX9_mayHoist_245 jX9_mayHoist_241 jX9_mayHoist_246
  by_cases gA : A
  · rw [if_neg (fun q => (isb_0 h4).mp q gA)]
    by_cases gB : B
    · rw [if_neg (fun q => (isb_0 hcf).mp q gB)]
      by_cases gE : evd x e kp i ∧ evd x e kp j
      · rw [if_neg (fun q => (isb_0 hbo).mp q gE)]
        obtain ⟨ri, h1, h2⟩ := e_turnOf (kp := kp) he x (i := i) (by omega)
        obtain ⟨rj, h3, h5⟩ := e_turnOf (kp := kp) he x (i := j) (by omega)
        rw [h3, bn_s, h1, bn_s]
        have t := tr_le he hu hi hj h2 h5 gE.1 gE.2
        by_cases gb : bef x e kp j i
        · rw [if_neg (fun q => t.mp q gb)]
          exact ⟨1, rfl, isb_t ⟨gA, fun _ _ _ => gb⟩⟩
        · rw [if_pos (t.mpr gb)]
          exact ⟨0, rfl, isb_f (fun q => gb (q.2 gB gE.1 gE.2))⟩
      · rw [if_pos ((isb_0 hbo).mpr gE)]
        exact ⟨1, rfl, isb_t ⟨gA, fun _ q1 q2 => absurd ⟨q1, q2⟩ gE⟩⟩
    · rw [if_pos ((isb_0 hcf).mpr gB)]
      exact ⟨1, rfl, isb_t ⟨gA, fun q => absurd q gB⟩⟩
  · rw [if_pos ((isb_0 h4).mpr gA)]
    exact ⟨0, rfl, isb_f (fun q => gA q.1)⟩
theorem may_inner (hc : c < 8) (hn : n ≤ 5) (he : e ≤ 5) (hu : KU e kp) (hkd : ∀ i, i < n → rC s c (5 + i) = kd i) (k18 : Int32 → Int32 → Int32 → Int32 → Int32 → Option Int32) (x : Int32) {y : Int32} {i : Nat} (hi : i < n) {A : Prop} (hA : isb y A) : ∃ y', lX9_mayHoist_122 s (nI e) kp k18 5000 (nI c) x (nI n) y (nI i) 0 = k18 (nI c) x (nI n) y' (nI i + 1) ∧ isb y' (A ∧ ∀ j, j < i → PR x e kp kd j i) := by
  refine inv_loop (g := fun n' y j => lX9_mayHoist_122 s (nI e) kp k18 n' (nI c) x (nI n) y (nI i) j) (N := i) (fun j y => isb y (A ∧ ∀ j', j' < j → PR x e kp kd j' i)) (K := fun y => k18 (nI c) x (nI n) y (nI i + 1)) (fun n' j y hj hI => ?_) (fun n' y hI => ?_) 5000 0 y (Nat.zero_le _) (by omega) (isb_iff hA ⟨fun h => ⟨h, fun j hj => absurd hj (Nat.not_lt_zero j)⟩, fun h => h.1⟩)
  · show ∃ y', lX9_mayHoist_122 s (nI e) kp k18 (n' + 1) (nI c) x (nI n) y (nI i) (nI j) = lX9_mayHoist_122 s (nI e) kp k18 n' (nI c) x (nI n) y' (nI i) (nI j + 1) ∧ isb y' (A ∧ ∀ j', j' < j + 1 → PR x e kp kd j' i)
    have hI : isb y (A ∧ ∀ j', j' < j → PR x e kp kd j' i) := hI
    rw [lX9_mayHoist_122_s, if_neg (up_i (by omega) hj)]
    have stage : ∃ cf, isb cf (conf (kd i) (kd j)) ∧ (bn (fX9_doesCount s (nI c) (nI i)) fun v2 =>
      if v2 = 0 then jX9_mayHoist_175 s (nI e) kp k18 (fun u1 u2 u3 u4 u5 u8 => lX9_mayHoist_122 s (nI e) kp k18 n' u1 u2 u3 u4 u5 u8) (nI c) x (nI n) y (nI i) (nI j)
      else bn (fX9_doesCount s (nI c) (nI j)) fun v5 =>
        if v5 = 0 then jX9_mayHoist_175 s (nI e) kp k18 (fun u1 u2 u3 u4 u5 u8 => lX9_mayHoist_122 s (nI e) kp k18 n' u1 u2 u3 u4 u5 u8) (nI c) x (nI n) y (nI i) (nI j)
        else bn (fX9_kindOf s (nI c) (nI i)) fun v7 =>
          if v7 = 2 then jX9_mayHoist_171 s (nI e) kp k18 (fun u1 u2 u3 u4 u5 u8 => lX9_mayHoist_122 s (nI e) kp k18 n' u1 u2 u3 u4 u5 u8) (nI c) x (nI n) y (nI i) (nI j)
          else bn (fX9_kindOf s (nI c) (nI j)) fun v9 =>
            if v9 = 2 then jX9_mayHoist_171 s (nI e) kp k18 (fun u1 u2 u3 u4 u5 u8 => lX9_mayHoist_122 s (nI e) kp k18 n' u1 u2 u3 u4 u5 u8) (nI c) x (nI n) y (nI i) (nI j)
            else jX9_mayHoist_175 s (nI e) kp k18 (fun u1 u2 u3 u4 u5 u8 => lX9_mayHoist_122 s (nI e) kp k18 n' u1 u2 u3 u4 u5 u8) (nI c) x (nI n) y (nI i) (nI j)) = jX9_mayHoist_176 s (nI e) kp k18 (fun u1 u2 u3 u4 u5 u8 => lX9_mayHoist_122 s (nI e) kp k18 n' u1 u2 u3 u4 u5 u8) (nI c) x (nI n) y (nI i) (nI j) cf := by
      unfold jX9_mayHoist_175 jX9_mayHoist_171
      obtain ⟨r1, hr1, hb1⟩ := e_doesCount (s := s) hc (i := i) (by omega)
      obtain ⟨r2, hr2, hb2⟩ := e_doesCount (s := s) hc (i := j) (by omega)
      rw [hkd i hi] at hb1
      rw [hkd j (by omega)] at hb2
      rw [hr1, bn_s]
      by_cases g1 : cn (kd i)
      · rw [if_neg (fun q => (isb_0 hb1).mp q g1), hr2, bn_s]
        by_cases g2 : cn (kd j)
        · rw [if_neg (fun q => (isb_0 hb2).mp q g2), e_kindOf9 hc (by omega), bn_s, hkd i hi]
          by_cases g3 : kd i = 2
          · rw [if_pos g3]
            exact ⟨1, isb_t ⟨g1, g2, Or.inl g3⟩, rfl⟩
          · rw [if_neg g3, e_kindOf9 hc (by omega), bn_s, hkd j (by omega)]
            by_cases g4 : kd j = 2
            · rw [if_pos g4]
              exact ⟨1, isb_t ⟨g1, g2, Or.inr g4⟩, rfl⟩
            · rw [if_neg g4]
              exact ⟨0, isb_f (fun q => q.2.2.elim g3 g4), rfl⟩
        · rw [if_pos ((isb_0 hb2).mpr g2)]
          exact ⟨0, isb_f (fun q => g2 q.2.1), rfl⟩
      · rw [if_pos ((isb_0 hb1).mpr g1)]
        exact ⟨0, isb_f (fun q => g1 q.1), rfl⟩
    obtain ⟨cf, hcf, est⟩ := stage
    rw [est]
    obtain ⟨bo, e2, hbo⟩ := may_both (s := s) (kp := kp) he k18 (fun u1 u2 u3 u4 u5 u8 => lX9_mayHoist_122 s (nI e) kp k18 n' u1 u2 u3 u4 u5 u8) (nI c) x (nI n) y (i := i) (j := j) (by omega) (by omega) cf
    rw [e2]
    obtain ⟨y', e3, hy'⟩ := may_pair (s := s) (kp := kp) he hu k18 (fun u1 u2 u3 u4 u5 u8 => lX9_mayHoist_122 s (nI e) kp k18 n' u1 u2 u3 u4 u5 u8) (nI c) x (nI n) y (i := i) (j := j) (by omega) hj hI hcf hbo
    rw [e3]
    refine ⟨y', rfl, isb_iff hy' ⟨fun h => ⟨h.1.1, fun j' hj' => ?_⟩, fun h => ⟨⟨h.1, fun j' hj' => h.2 j' (by omega)⟩, h.2 j (by omega)⟩⟩⟩
    by_cases z : j' = j
    · rw [z]
      exact h.2
    · exact h.1.2 j' (by omega)
  · show lX9_mayHoist_122 s (nI e) kp k18 (n' + 1) (nI c) x (nI n) y (nI i) (nI i) = k18 (nI c) x (nI n) y (nI i + 1)
    rw [lX9_mayHoist_122_s, if_pos (up_N (by omega))]
end MY
