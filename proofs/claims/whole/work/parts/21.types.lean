/-! types: the reference's memory s holds, class and reference agree -/
def isb (r : Int32) (P : Prop) : Prop := (r = 1 ∧ P) ∨ (r = 0 ∧ ¬ P)
theorem isb_rb {r : Int32} {P : Prop} (h : isb r P) : rb r = some r := by
  rcases h with ⟨rfl, -⟩ | ⟨rfl, -⟩ <;> rfl
theorem isb_b2i (b : Bool) : isb (b2i b) (b = true) := by
  cases b
  · exact Or.inr ⟨rfl, by simp⟩
  · exact Or.inl ⟨rfl, rfl⟩
theorem isb_iff {r : Int32} {P Q : Prop} (h : isb r P) (e : P ↔ Q) : isb r Q := by
  rcases h with ⟨a, b⟩ | ⟨a, b⟩
  · exact Or.inl ⟨a, e.mp b⟩
  · exact Or.inr ⟨a, fun q => b (e.mpr q)⟩
theorem isb_eq {r r' : Int32} {P : Prop} (h : isb r P) (h' : isb r' P) : r = r' := by
  rcases h with ⟨a, b⟩ | ⟨a, b⟩ <;> rcases h' with ⟨c, d⟩ | ⟨c, d⟩
  · rw [a, c]
  · exact absurd b d
  · exact absurd d b
  · rw [a, c]
theorem isb_0 {r : Int32} {P : Prop} (h : isb r P) : r = 0 ↔ ¬ P := by
  rcases h with ⟨rfl, b⟩ | ⟨rfl, b⟩
  · exact ⟨fun h => absurd h (by decide), fun h => absurd b h⟩
  · exact ⟨fun _ => b, fun _ => rfl⟩
theorem isb_1 {r : Int32} {P : Prop} (h : isb r P) : r = 1 ↔ P := by
  rcases h with ⟨rfl, b⟩ | ⟨rfl, b⟩
  · exact ⟨fun _ => b, fun _ => rfl⟩
  · exact ⟨fun h => absurd h (by decide), fun h => absurd h b⟩
theorem isb_t {P : Prop} (h : P) : isb 1 P := Or.inl ⟨rfl, h⟩
theorem isb_f {P : Prop} (h : ¬ P) : isb 0 P := Or.inr ⟨rfl, h⟩
theorem e_has (x : Int32) {k : Nat} (hk : k < 32) : ∃ r, fX9_has x (nI k) = some r ∧ isb r (tb x k = true) := by
  unfold fX9_has
  rw [tb_shr x hk]
  cases h : tb x k
  · exact ⟨0, rfl, isb_f (by simp)⟩
  · exact ⟨1, rfl, isb_t rfl⟩
theorem e_contains (x : Int32) {k : Nat} (hk : k < 32) : ∃ r, fX8_contains x (nI k) = some r ∧ isb r (tb x k = true) := by
  unfold fX8_contains
  cases h : tb x k
  · rw [if_pos ((tb_and_bit x hk).mpr h)]
    exact ⟨0, rfl, isb_f (by simp)⟩
  · rw [if_neg (fun q => by rw [(tb_and_bit x hk).mp q] at h; cases h)]
    exact ⟨1, rfl, isb_t rfl⟩
theorem e_bit (k : Nat) : fX8_bit (nI k) = some (1 <<< (nI k &&& 31)) := rfl
theorem e_in (x lo hi : Int32) : ∃ r, fX9_in x lo hi = some r ∧ isb r (lo ≤ x ∧ x ≤ hi) := by
  unfold fX9_in
  by_cases h1 : x < lo
  · rw [if_pos h1]
    exact ⟨0, rfl, isb_f (fun q => absurd q.1 (Int32.not_le.mpr h1))⟩
  · rw [if_neg h1]
    by_cases h2 : hi < x
    · rw [if_pos h2]
      exact ⟨0, rfl, isb_f (fun q => absurd q.2 (Int32.not_le.mpr h2))⟩
    · rw [if_neg h2]
      exact ⟨1, rfl, isb_t ⟨Int32.not_lt.mp h1, Int32.not_lt.mp h2⟩⟩
theorem rd_l0 {α : Type} {f : Nat → Int32} {k : Int32 → Option α} : rd 467 f 0 k = k (f 0) := rd_nI (i := 0) (by decide) (by decide)
theorem rd_l25 {α : Type} {f : Nat → Int32} {k : Int32 → Option α} : rd 467 f 25 k = k (f 25) := rd_nI (i := 25) (by decide) (by decide)
theorem rd_l234 {α : Type} {f : Nat → Int32} {k : Int32 → Option α} : rd 467 f 234 k = k (f 234) := rd_nI (i := 234) (by decide) (by decide)
theorem ixT (t : Nat) : (1 : Int32) + 3 * nI t = nI (1 + 3 * t) := by
  show nI 1 + nI 3 * nI t = _
  rw [nI_mul, nI_add]
theorem ixT1 (t : Nat) : ((1 : Int32) + 3 * nI t) + 1 = nI (1 + 3 * t + 1) := by
  rw [ixT]
  exact nI_add _ 1
theorem ixT2 (t : Nat) : ((1 : Int32) + 3 * nI t) + 2 = nI (1 + 3 * t + 2) := by
  rw [ixT]
  exact nI_add _ 2
/-- b is named by a's declaration -/
def dir (s : Nat → Int32) (a b : Nat) : Prop := (b < a ∧ s (1 + 3 * a + 1) = nI b) ∨ tb (s (1 + 3 * a + 2)) b = true
def up (s : Nat → Int32) (a b : Nat) : Prop := ∀ S : Nat → Prop, S a → (∀ x y, S x → dir s x y → S y) → S b
def WFT (s : Nat → Int32) (nt : Nat) : Prop := nt ≤ 8 ∧ s 0 = nI nt ∧ ∀ t, t < nt → (s (1 + 3 * t) = 0 ∨ s (1 + 3 * t) = 1) ∧ (s (1 + 3 * t + 1) = -1 ∨ ∃ p, p < t ∧ s (1 + 3 * t + 1) = nI p ∧ s (1 + 3 * t) = 0 ∧ s (1 + 3 * p) = 0) ∧ ∀ k, tb (s (1 + 3 * t + 2)) k = true → k < t ∧ s (1 + 3 * k) = 1
theorem up_rfl {s : Nat → Int32} (a : Nat) : up s a a := fun _ h _ => h
theorem up_dir {s : Nat → Int32} {a b c : Nat} (h : up s a b) (hd : dir s b c) : up s a c := fun S ha hs => hs b c (h S ha hs) hd
theorem up_trans {s : Nat → Int32} {a b c : Nat} (h : up s a b) (h2 : up s b c) : up s a c := fun S ha hs => h2 S (h S ha hs) hs
theorem up_cases {s : Nat → Int32} {a c : Nat} (h : up s a c) : a = c ∨ ∃ b, dir s a b ∧ up s b c := by
  refine h (fun c => a = c ∨ ∃ b, dir s a b ∧ up s b c) (Or.inl rfl) (fun x y hx hd => Or.inr ?_)
  rcases hx with rfl | ⟨b, h1, h2⟩
  · exact ⟨y, hd, up_rfl y⟩
  · exact ⟨b, h1, up_dir h2 hd⟩
theorem dir_lt {s : Nat → Int32} {nt a b : Nat} (hw : WFT s nt) (ha : a < nt) (h : dir s a b) : b < a := by
  rcases h with h | h
  · exact h.1
  · exact ((hw.2.2 a ha).2.2 b h).1
theorem up_le {s : Nat → Int32} {nt a b : Nat} (hw : WFT s nt) (ha : a < nt) (h : up s a b) : b ≤ a := by
  refine h (fun x => x ≤ a) (Nat.le_refl a) (fun x y hx hd => ?_)
  have hx : x ≤ a := hx
  have := dir_lt hw (Nat.lt_of_le_of_lt hx ha) hd
  show y ≤ a
  omega
section T1
variable {s : Nat → Int32} {nt : Nat}
theorem closed_loop (hw : WFT s nt) (named : Int32) (hn : ∀ k, tb named k = true → k < nt) : ∀ (j n : Nat) (cur : Int32), j ≤ 8 → j < n → (∀ k, tb cur k = true → ∃ a, tb named a = true ∧ up s a k) → (∀ a, tb named a = true → tb cur a = true) → (∀ x, j ≤ x → tb cur x = true → ∀ y, dir s x y → tb cur y = true) → ∃ x, lX9_closed_5 s n cur (nI j + (-1)) = some x ∧ ∀ k, tb x k = true ↔ ∃ a, tb named a = true ∧ up s a k := by
  intro j
  induction j with
  | zero =>
    intro n cur _ hjn h1 h2 h3
    obtain ⟨n, rfl⟩ : ∃ m, n = m + 1 := ⟨n - 1, by omega⟩
    rw [lX9_closed_5_s, if_pos (by decide)]
    refine ⟨cur, rfl, fun k => ⟨h1 k, fun ⟨a, ha, hu⟩ => ?_⟩⟩
    exact hu (fun k => tb cur k = true) (h2 a ha) (fun x y hx hd => h3 x (Nat.zero_le x) hx y hd)
  | succ j ih =>
    intro n cur hj hjn h1 h2 h3
    obtain ⟨n, rfl⟩ : ∃ m, n = m + 1 := ⟨n - 1, by omega⟩
    rw [pk_m1, lX9_closed_5_s, if_neg (nI_pos (by omega))]
    obtain ⟨r, hr, hb⟩ := e_has cur (k := j) (by omega)
    rw [hr, bn_s]
    by_cases hc : tb cur j = true
    · rw [if_neg (fun q => (isb_0 hb).mp q hc)]
      obtain ⟨a, ha, hu⟩ := h1 j hc
      have hjt : j < nt := Nat.lt_of_le_of_lt (up_le hw (hn a ha) hu) (hn a ha)
      obtain ⟨w1, w2, w3⟩ := hw.2.2 j hjt
      rw [ixT2, rd_nI (by omega) (by decide), ixT1, rd_nI (by omega) (by decide)]
      have key : ∀ b : Int32, (∀ y, tb b y = true ↔ y < j ∧ s (1 + 3 * j + 1) = nI y) → ∃ x, lX9_closed_5 s n (cur ||| (s (1 + 3 * j + 2) ||| b)) (nI j + (-1)) = some x ∧ ∀ k, tb x k = true ↔ ∃ a, tb named a = true ∧ up s a k := by
        intro b hbb
        have ht : ∀ y, tb (cur ||| (s (1 + 3 * j + 2) ||| b)) y = true ↔ tb cur y = true ∨ dir s j y := by
          intro y
          rw [tb_or, tb_or, Bool.or_eq_true, Bool.or_eq_true, hbb y]
          unfold dir
          constructor
          · rintro (h | h | h)
            · exact Or.inl h
            · exact Or.inr (Or.inr h)
            · exact Or.inr (Or.inl h)
          · rintro (h | h | h)
            · exact Or.inl h
            · exact Or.inr (Or.inr h)
            · exact Or.inr (Or.inl h)
        refine ih n _ (by omega) (by omega) (fun k hk => ?_) (fun a ha => (ht a).mpr (Or.inl (h2 a ha))) (fun x hx hxc y hd => ?_)
        · rcases (ht k).mp hk with h | h
          · exact h1 k h
          · exact ⟨a, ha, up_dir hu h⟩
        · rcases Nat.lt_or_ge j x with g | g
          · rcases (ht x).mp hxc with h | h
            · exact (ht y).mpr (Or.inl (h3 x g h y hd))
            · exact absurd (dir_lt hw hjt h) (by omega)
          · have : x = j := by omega
            subst this
            exact (ht y).mpr (Or.inr hd)
      rcases w2 with w2 | ⟨p, hp, w2, -, -⟩
      · rw [w2, if_neg (by decide)]
        refine key 0 (fun y => ?_)
        rw [tb_zero]
        refine ⟨fun h => (by cases h), fun ⟨h4, h5⟩ => ?_⟩
        rw [w2] at h5
        exact absurd h5.symm (fun q => nI_pos (n := y) (by omega) (by rw [q]; decide))
      · rw [w2, if_pos (nI_pos' (by omega)), rd_nI (by omega) (by decide), w2]
        refine key _ (fun y => ?_)
        rw [tb_bit (by omega), decide_eq_true_iff]
        constructor
        · rintro rfl
          exact ⟨hp, w2⟩
        · rintro ⟨h4, h5⟩
          rw [w2] at h5
          exact (nI_inj (by omega) (by omega) h5).symm
    · rw [if_pos ((isb_0 hb).mpr hc)]
      refine ih n cur (by omega) (by omega) h1 h2 (fun x hx hxc y hd => ?_)
      rcases Nat.lt_or_ge j x with g | g
      · exact h3 x g hxc y hd
      · have : x = j := by omega
        subst this
        exact absurd hxc hc
theorem e_closed (hw : WFT s nt) (named : Int32) (hn : ∀ k, tb named k = true → k < nt) : ∃ x, fX9_closed s named = some x ∧ ∀ k, tb x k = true ↔ ∃ a, tb named a = true ∧ up s a k := by
  unfold fX9_closed
  exact closed_loop hw named hn 8 5000 named (by decide) (by decide) (fun k hk => ⟨k, hk, up_rfl k⟩) (fun _ h => h) (fun x hx hxc => absurd (hn x hxc) (by have := hw.1; omega))
theorem e_supers (hw : WFT s nt) {t : Nat} (ht : t < nt) : ∃ x, fX9_supers s (nI t) = some x ∧ ∀ k, tb x k = true ↔ up s t k := by
  have h8 := hw.1
  unfold fX9_supers
  obtain ⟨x, hx, hb⟩ := e_closed hw (1 <<< (nI t &&& 31)) (fun k hk => by rw [tb_bit (by omega), decide_eq_true_iff] at hk; omega)
  rw [hx, bn_s]
  refine ⟨x, rfl, fun k => ?_⟩
  rw [hb k]
  constructor
  · rintro ⟨a, ha, hu⟩
    rw [tb_bit (by omega), decide_eq_true_iff] at ha
    subst ha
    exact hu
  · intro hu
    exact ⟨t, by rw [tb_bit (by omega), decide_eq_true_iff], hu⟩
/-- two types are connected -/
def conn (s : Nat → Int32) (nt a b : Nat) : Prop := ∃ t, t < nt ∧ up s t a ∧ up s t b
theorem ex_succ {P : Nat → Prop} {i : Nat} : (∃ t, t < i + 1 ∧ P t) ↔ (∃ t, t < i ∧ P t) ∨ P i := by
  constructor
  · rintro ⟨t, h1, h2⟩
    rcases Nat.lt_or_ge t i with g | g
    · exact Or.inl ⟨t, g, h2⟩
    · have : t = i := by omega
      subst this
      exact Or.inr h2
  · rintro (⟨t, h1, h2⟩ | h)
    · exact ⟨t, by omega, h2⟩
    · exact ⟨i, by omega, h⟩
theorem ex_zero {P : Nat → Prop} : ¬ ∃ t, t < 0 ∧ P t := fun ⟨t, h, _⟩ => absurd h (Nat.not_lt_zero t)
theorem areConnected_loop (hw : WFT s nt) {a b : Nat} (ha : a < 32) (hb : b < 32) : ∀ (n i : Nat) (y : Int32), i ≤ nt → nt - i < n → isb y (∃ t, t < i ∧ up s t a ∧ up s t b) → ∃ r, lX9_areConnected_5 s n (nI a) (nI b) y (nI i) = some r ∧ isb r (conn s nt a b) := by
  have h8 := hw.1
  intro n
  induction n with
  | zero => intro i y _ h; omega
  | succ n ih =>
    intro i y hi hn hy
    rw [lX9_areConnected_5_s]
    rw [rd_l0, hw.2.1]
    by_cases hlt : i < nt
    · rw [if_neg (nI_ge hlt (by omega))]
      have go : ∀ y' : Int32, isb y' (∃ t, t < i + 1 ∧ up s t a ∧ up s t b) → ∃ r, lX9_areConnected_5 s n (nI a) (nI b) y' (nI i + 1) = some r ∧ isb r (conn s nt a b) := fun y' hy' => by
        rw [nI_1]
        exact ih (i + 1) y' (by omega) (by omega) hy'
      rcases hy with ⟨rfl, hp⟩ | ⟨rfl, hp⟩
      · rw [if_neg (by decide)]
        exact go 1 (isb_t (ex_succ.mpr (Or.inl hp)))
      · rw [if_pos rfl]
        obtain ⟨x, hx, hxb⟩ := e_supers hw hlt
        obtain ⟨r1, h1, b1⟩ := e_has x ha
        obtain ⟨r2, h2, b2⟩ := e_has x hb
        rw [hx, bn_s, h1, bn_s]
        by_cases g1 : up s i a
        · rw [if_neg (fun q => (isb_0 b1).mp q ((hxb a).mpr g1)), bn_s, h2, bn_s]
          by_cases g2 : up s i b
          · rw [if_neg (fun q => (isb_0 b2).mp q ((hxb b).mpr g2))]
            exact go 1 (isb_t (ex_succ.mpr (Or.inr ⟨g1, g2⟩)))
          · rw [if_pos ((isb_0 b2).mpr (fun q => g2 ((hxb b).mp q)))]
            exact go 0 (isb_f (fun q => (ex_succ.mp q).elim hp (fun z => g2 z.2)))
        · rw [if_pos ((isb_0 b1).mpr (fun q => g1 ((hxb a).mp q)))]
          exact go 0 (isb_f (fun q => (ex_succ.mp q).elim hp (fun z => g1 z.1)))
    · have : i = nt := by omega
      subst this
      rw [if_pos (nI_le (Nat.le_refl i) (by omega)), isb_rb hy]
      exact ⟨y, rfl, hy⟩
theorem e_areConnected (hw : WFT s nt) {a b : Nat} (ha : a < 32) (hb : b < 32) : ∃ r, fX9_areConnected s (nI a) (nI b) = some r ∧ isb r (conn s nt a b) := by
  unfold fX9_areConnected
  exact areConnected_loop hw ha hb 5000 0 0 (Nat.zero_le _) (by have := hw.1; omega) (isb_f ex_zero)
theorem e_isInterface {t : Nat} (ht : t < 32) : ∃ r, fX9_isInterface s (nI t) = some r ∧ isb r (s (1 + 3 * t) = 1) := by
  unfold fX9_isInterface
  rw [ixT, rd_nI (by omega) (by decide)]
  by_cases h : s (1 + 3 * t) = 1
  · rw [if_pos h]
    exact ⟨1, rfl, isb_t h⟩
  · rw [if_neg h]
    exact ⟨0, rfl, isb_f h⟩
theorem in_idx {x : Int32} {n : Nat} (hn : n < 2 ^ 31) : (0 ≤ x ∧ x ≤ nI n - 1) ↔ ∃ j, j < n ∧ x = nI j := by
  constructor
  · rintro ⟨h1, h2⟩
    obtain ⟨j, hj, rfl⟩ := nI_of (x := x) (Int32.not_lt.mpr h1)
    refine ⟨j, ?_, rfl⟩
    cases n with
    | zero =>
      rw [show nI 0 - 1 = (-1 : Int32) by decide] at h2
      have h3 := Int32.le_iff_toInt_le.mp h2
      rw [nI_toInt hj] at h3
      have h4 : (-1 : Int32).toInt = -1 := by decide
      omega
    | succ n =>
      rw [nI_pred] at h2
      have := (nI_leI hj (by omega)).mp h2
      omega
  · rintro ⟨j, hj, rfl⟩
    refine ⟨nI_pos' (by omega), ?_⟩
    cases n with
    | zero => omega
    | succ n =>
      rw [nI_pred]
      exact nI_le (by omega) (by omega)
theorem e_isType (hw : WFT s nt) (x : Int32) : ∃ r, fX9_isType s x = some r ∧ isb r (∃ t, t < nt ∧ x = nI t) := by
  have h8 := hw.1
  unfold fX9_isType
  rw [rd_l0, hw.2.1]
  obtain ⟨r, hr, hb⟩ := e_in x 0 (nI nt - 1)
  rw [hr, bn_s]
  exact ⟨r, isb_rb hb, isb_iff hb (in_idx (by omega))⟩
theorem allInterfaces_loop (hw : WFT s nt) : ∀ (n i : Nat) (y : Int32), i ≤ nt → nt - i < n → (∀ k, tb y k = true ↔ k < i ∧ s (1 + 3 * k) = 1) → ∃ x, lX9_allInterfaces_4 s n y (nI i) = some x ∧ ∀ k, tb x k = true ↔ k < nt ∧ s (1 + 3 * k) = 1 := by
  have h8 := hw.1
  intro n
  induction n with
  | zero => intro i y _ h; omega
  | succ n ih =>
    intro i y hi hn hy
    rw [lX9_allInterfaces_4_s, rd_l0, hw.2.1]
    by_cases hlt : i < nt
    · rw [if_neg (nI_ge hlt (by omega))]
      obtain ⟨r, hr, hb⟩ := e_isInterface (s := s) (t := i) (by omega)
      rw [hr, bn_s]
      by_cases g : s (1 + 3 * i) = 1
      · rw [if_neg (fun q => (isb_0 hb).mp q g)]
        unfold jX9_allInterfaces_30
        rw [nI_1]
        refine ih (i + 1) _ (by omega) (by omega) (fun k => ?_)
        rw [tb_or, Bool.or_eq_true, hy k, tb_bit (by omega), decide_eq_true_iff]
        constructor
        · rintro (⟨h1, h2⟩ | rfl)
          · exact ⟨by omega, h2⟩
          · exact ⟨by omega, g⟩
        · rintro ⟨h1, h2⟩
          by_cases e : k = i
          · exact Or.inr e
          · exact Or.inl ⟨by omega, h2⟩
      · rw [if_pos ((isb_0 hb).mpr g)]
        unfold jX9_allInterfaces_30
        rw [nI_1]
        refine ih (i + 1) _ (by omega) (by omega) (fun k => ?_)
        rw [tb_or, tb_zero, Bool.or_false, hy k]
        constructor
        · rintro ⟨h1, h2⟩
          exact ⟨by omega, h2⟩
        · rintro ⟨h1, h2⟩
          by_cases e : k = i
          · subst e
            exact absurd h2 g
          · exact ⟨by omega, h2⟩
    · have : i = nt := by omega
      subst this
      rw [if_pos (nI_le (Nat.le_refl i) (by omega))]
      exact ⟨y, rfl, hy⟩
theorem e_allInterfaces (hw : WFT s nt) : ∃ x, fX9_allInterfaces s = some x ∧ ∀ k, tb x k = true ↔ k < nt ∧ s (1 + 3 * k) = 1 := by
  unfold fX9_allInterfaces
  exact allInterfaces_loop hw 5000 0 0 (Nat.zero_le _) (by have := hw.1; omega) (fun k => by rw [tb_zero]; exact ⟨fun h => (by cases h), fun h => absurd h.1 (Nat.not_lt_zero k)⟩)
/-! the class's types -/
def CT (s : Nat → Int32) (nt : Nat) (t_count t_ifs : Int32) (t_sup : Nat → Int32) : Prop := t_count = nI nt ∧ (∀ t, t < nt → ∀ k, tb (t_sup t) k = true ↔ up s t k) ∧ ∀ k, tb t_ifs k = true ↔ k < nt ∧ s (1 + 3 * k) = 1
variable {t_count t_ifs : Int32} {t_sup : Nat → Int32}
theorem e_texists (hw : WFT s nt) (hc : CT s nt t_count t_ifs t_sup) (x : Int32) : ∃ r, fX7_exists t_count x = some r ∧ isb r (∃ t, t < nt ∧ x = nI t) := by
  have h8 := hw.1
  unfold fX7_exists
  rw [hc.1]
  rcases pk_ix x (n := nt) (by omega) with h | h | ⟨j, hj, rfl⟩
  · rw [if_pos h]
    exact ⟨0, rfl, isb_f (fun ⟨t, ht, e⟩ => by rw [e] at h; exact nI_pos (by omega) h)⟩
  · by_cases g : x < 0
    · rw [if_pos g]
      exact ⟨0, rfl, isb_f (fun ⟨t, ht, e⟩ => by rw [e] at g; exact nI_pos (by omega) g)⟩
    · rw [if_neg g, if_pos h]
      exact ⟨0, rfl, isb_f (fun ⟨t, ht, e⟩ => by rw [e] at h; exact nI_ge ht (by omega) h)⟩
  · rw [if_neg (nI_pos (by omega)), if_neg (nI_ge hj (by omega))]
    exact ⟨1, rfl, isb_t ⟨j, hj, rfl⟩⟩
theorem e_inherits (hw : WFT s nt) (hc : CT s nt t_count t_ifs t_sup) {a b : Nat} (ha : a < nt) (hb : b < nt) : ∃ r, fX7_inherits t_sup (nI a) (nI b) = some r ∧ isb r (up s a b) := by
  have h8 := hw.1
  unfold fX7_inherits
  rw [rd_nI (by omega) (by decide)]
  obtain ⟨r, hr, hbb⟩ := e_contains (t_sup a) (k := b) (by omega)
  rw [hr, bn_s]
  exact ⟨r, isb_rb hbb, isb_iff hbb (hc.2.1 a ha b)⟩
end T1
