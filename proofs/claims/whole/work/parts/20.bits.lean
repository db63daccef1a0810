/-! bits of Int32, numbers, and the pure functions' reads and writes at places that are known to be in range -/
def tb (x : Int32) (k : Nat) : Bool := x.toBitVec.getLsbD k
theorem tb_ext {x y : Int32} (h : ∀ k, k < 32 → tb x k = tb y k) : x = y := Int32.toBitVec_inj.mp (BitVec.eq_of_getLsbD_eq (fun i hi => h i hi))
theorem tb_big {x : Int32} {k : Nat} (h : 32 ≤ k) : tb x k = false := BitVec.getLsbD_of_ge _ _ h
theorem tb_and (x y : Int32) (k : Nat) : tb (x &&& y) k = (tb x k && tb y k) := by simp [tb]
theorem tb_or (x y : Int32) (k : Nat) : tb (x ||| y) k = (tb x k || tb y k) := by simp [tb]
theorem tb_xor (x y : Int32) (k : Nat) : tb (x ^^^ y) k = (tb x k ^^ tb y k) := by simp [tb]
theorem tb_zero (k : Nat) : tb 0 k = false := by simp [tb]
theorem tb_not (x : Int32) {k : Nat} (h : k < 32) : tb (x ^^^ (-1)) k = !tb x k := by
  rw [tb_xor]
  have : tb (-1) k = true := by
    have h2 : ∀ k, k < 32 → tb (-1) k = true := by decide +kernel
    exact h2 k h
  rw [this]
  cases tb x k <;> rfl
theorem tb_bit {k : Nat} (hk : k < 32) (j : Nat) : tb (1 <<< (nI k &&& 31)) j = decide (j = k) := by
  have h : ∀ k, k < 32 → ∀ j, j < 32 → tb (1 <<< (nI k &&& 31)) j = decide (j = k) := by decide +kernel
  by_cases hj : j < 32
  · exact h k hk j hj
  · rw [tb_big (by omega)]
    exact (decide_eq_false (by omega)).symm
theorem tb_eq0 {x : Int32} : x = 0 ↔ ∀ k, k < 32 → tb x k = false := by
  constructor
  · intro h k _
    rw [h, tb_zero]
  · intro h
    exact tb_ext (fun k hk => by rw [h k hk, tb_zero])
theorem tb_and_bit (x : Int32) {k : Nat} (hk : k < 32) : (x &&& (1 <<< (nI k &&& 31))) = 0 ↔ tb x k = false := by
  rw [tb_eq0]
  constructor
  · intro h
    have := h k hk
    rw [tb_and, tb_bit hk] at this
    simpa using this
  · intro h j _
    rw [tb_and, tb_bit hk]
    by_cases e : j = k
    · subst e; rw [h]; rfl
    · simp [e]
theorem tb_shr (x : Int32) {k : Nat} (hk : k < 32) : ((x >>> (nI k &&& 31)) &&& 1) = if tb x k = true then 1 else 0 := by
  have h31 : ∀ k, k < 32 → ((nI k &&& 31).toBitVec.smod 32).toNat = k := by decide +kernel
  have e : (x >>> (nI k &&& 31)).toBitVec = x.toBitVec.sshiftRight k := by
    show (x.toBitVec.sshiftRight ((nI k &&& 31).toBitVec.smod 32).toNat) = _
    rw [h31 k hk]
  apply tb_ext
  intro j hj
  have h1 : ∀ j, j < 32 → tb 1 j = decide (j = 0) := by decide +kernel
  rw [tb_and, h1 j hj]
  have e0 : tb (x >>> (nI k &&& 31)) 0 = tb x k := by
    unfold tb
    rw [e, BitVec.getLsbD_sshiftRight]
    simp [hk]
  by_cases z : j = 0
  · subst z
    rw [e0]
    cases tb x k <;> rfl
  · rw [decide_eq_false z, Bool.and_false]
    split
    · rw [h1 j hj, decide_eq_false z]
    · rw [tb_zero]
def b2i (b : Bool) : Int32 := if b = true then 1 else 0
theorem b2i_t : b2i true = 1 := rfl
theorem b2i_f : b2i false = 0 := rfl
theorem b2i_0 {b : Bool} : b2i b = 0 ↔ b = false := by cases b <;> decide
theorem b2i_1 {b : Bool} : b2i b = 1 ↔ b = true := by cases b <;> decide
theorem rb_b2i (b : Bool) : rb (b2i b) = some (b2i b) := by cases b <;> rfl
-- the pure functions' words, at places in range
theorem inb_nI {i n : Nat} (h : i < n) (hn : n < 2 ^ 31) : inb (nI i) n = true := by
  unfold inb
  rw [nI_clamp (by omega)]
  simp only [Bool.and_eq_true, decide_eq_true_eq]
  exact ⟨nI_pos (by omega), h⟩
theorem rd_nI {α : Type} {n i : Nat} {f : Nat → Int32} {k : Int32 → Option α} (h : i < n) (hn : n < 2 ^ 31) : rd n f (nI i) k = k (f i) := by
  unfold rd
  rw [if_pos (inb_nI h hn), nI_clamp (by omega)]
theorem wr_nI {α : Type} {n i : Nat} {f : Nat → Int32} {x : Int32} {k : (Nat → Int32) → Option α} (h : i < n) (hn : n < 2 ^ 31) : wr n f (nI i) x k = k (upd f i x) := by
  unfold wr
  rw [if_pos (inb_nI h hn), nI_clamp (by omega)]
theorem bn_s {α β : Type} {b : β} {k : β → Option α} : bn (some b) k = k b := rfl
theorem bn2_s {α β γ : Type} {b : β} {c : γ} {k : β → γ → Option α} : bn2 (some (b, c)) k = k b c := rfl
theorem upd_s {f : Nat → Int32} {i : Nat} {x : Int32} : upd f i x i = x := if_pos rfl
theorem upd_n {f : Nat → Int32} {i j : Nat} {x : Int32} (h : j ≠ i) : upd f i x j = f j := if_neg h
theorem nI_mul (a b : Nat) : nI a * nI b = nI (a * b) := by
  unfold nI
  exact (Int32.ofNat_mul a b).symm
theorem nI_inj {a b : Nat} (ha : a < 2 ^ 31) (hb : b < 2 ^ 31) (h : nI a = nI b) : a = b := (nI_eq ha hb).mp h
/-- a loop upwards: from i to N, each step as told -/
theorem up_run {σ α : Type} {g : Nat → Int32 → σ → Option α} (N : Nat) (F : Nat → σ) (R : Option α) (hs : ∀ n i, i < N → g (n + 1) (nI i) (F i) = g n (nI i + 1) (F (i + 1))) (hx : ∀ n, g (n + 1) (nI N) (F N) = R) : ∀ n i, i ≤ N → N - i < n → g n (nI i) (F i) = R := by
  intro n
  induction n with
  | zero => intro i _ h; omega
  | succ n ih =>
    intro i hi hn
    rcases Nat.lt_or_ge i N with h | h
    · rw [hs n i h, nI_1]
      exact ih (i + 1) h (by omega)
    · have : i = N := by omega
      subst this
      exact hx n
