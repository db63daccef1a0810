/-! counting bits -/
theorem e_ones (x : Int32) : fX9_ones x = some (nI (cnt x 16)) := by
  unfold fX9_ones
  obtain ⟨y, hy, rfl⟩ := inv_loop (g := fun n' y i => lX9_ones_4 n' x y i) (N := 16) (fun i y => y = nI (cnt x i)) (K := some) (fun n' i y hi hI => by
    show ∃ y', lX9_ones_4 (n' + 1) x y (nI i) = lX9_ones_4 n' x y' (nI i + 1) ∧ y' = nI (cnt x (i + 1))
    have hI : y = nI (cnt x i) := hI
    subst hI
    rw [lX9_ones_4_s, if_neg (show ¬ (16 : Int32) ≤ nI i from up_i (N := 16) (by decide) hi), tb_shr x (by omega)]
    refine ⟨_, rfl, ?_⟩
    show nI (cnt x i) + _ = nI (cnt x i + (if tb x i = true then 1 else 0))
    rw [← nI_add]
    cases tb x i <;> rfl) (fun n' y hI => by
    show lX9_ones_4 (n' + 1) x y (nI 16) = some y
    rw [lX9_ones_4_s, if_pos (by decide)]) 5000 0 0 (Nat.zero_le _) (by omega) rfl
  exact hy
def pop16 (a : Nat) : Nat → Nat
  | 0 => 0
  | n + 1 => pop16 a n + (a >>> n) % 2
def nbc (a : Nat) : Nat :=
  (fun v1 => (fun v2 => (fun v3 => (fun v4 => Nat.land (Nat.add v4 (Nat.shiftRight v4 16)) 63) (Nat.add v3 (Nat.shiftRight v3 8))) (Nat.land (Nat.add v2 (Nat.shiftRight v2 4)) 252645135)) (Nat.add (Nat.land v1 858993459) (Nat.land (Nat.shiftRight v1 2) 858993459))) (Nat.sub a (Nat.land (Nat.shiftRight a 1) 1431655765))
def bcT (n : Nat) : Nat → Nat → Bool := Nat.rec (motive := fun _ => Nat → Nat → Bool) (fun k p => Nat.beq (nbc k) p) (fun _ ih k p => and (ih (Nat.mul 2 k) p) (ih (Nat.add (Nat.mul 2 k) 1) (Nat.add p 1))) n
theorem bc_0 : bcT 12 0 0 = true := by decide +kernel
theorem bc_1 : bcT 12 1 1 = true := by decide +kernel
theorem bc_2 : bcT 12 2 1 = true := by decide +kernel
theorem bc_3 : bcT 12 3 2 = true := by decide +kernel
theorem bc_4 : bcT 12 4 1 = true := by decide +kernel
theorem bc_5 : bcT 12 5 2 = true := by decide +kernel
theorem bc_6 : bcT 12 6 2 = true := by decide +kernel
theorem bc_7 : bcT 12 7 3 = true := by decide +kernel
theorem bc_8 : bcT 12 8 1 = true := by decide +kernel
theorem bc_9 : bcT 12 9 2 = true := by decide +kernel
theorem bc_10 : bcT 12 10 2 = true := by decide +kernel
theorem bc_11 : bcT 12 11 3 = true := by decide +kernel
theorem bc_12 : bcT 12 12 2 = true := by decide +kernel
theorem bc_13 : bcT 12 13 3 = true := by decide +kernel
theorem bc_14 : bcT 12 14 3 = true := by decide +kernel
theorem bc_15 : bcT 12 15 4 = true := by decide +kernel
def pop4 (k : Nat) : Nat := k % 2 + k / 2 % 2 + k / 4 % 2 + k / 8 % 2
theorem bc_all : ∀ k, k < 16 → bcT 12 k (pop4 k) = true
  | 0, _ => bc_0
  | 1, _ => bc_1
  | 2, _ => bc_2
  | 3, _ => bc_3
  | 4, _ => bc_4
  | 5, _ => bc_5
  | 6, _ => bc_6
  | 7, _ => bc_7
  | 8, _ => bc_8
  | 9, _ => bc_9
  | 10, _ => bc_10
  | 11, _ => bc_11
  | 12, _ => bc_12
  | 13, _ => bc_13
  | 14, _ => bc_14
  | 15, _ => bc_15
  | k + 16, h => absurd h (by omega)
/-- the bits from n up -/
def popH (a n : Nat) : Nat → Nat
  | 0 => 0
  | d + 1 => popH a n d + (a >>> (n + d)) % 2
theorem pop_split (a n d : Nat) : pop16 a (n + d) = pop16 a n + popH a n d := by
  induction d with
  | zero => rfl
  | succ d ih =>
    show pop16 a (n + d) + (a >>> (n + d)) % 2 = pop16 a n + (popH a n d + (a >>> (n + d)) % 2)
    rw [ih, Nat.add_assoc]
theorem bcT_get : ∀ (n k p : Nat), bcT n k p = true → ∀ a, a / 2 ^ n = k → nbc a = p + pop16 a n := by
  intro n
  induction n with
  | zero =>
    intro k p h a ha
    have : a = k := by rw [← ha]; simp
    subst this
    exact Nat.eq_of_beq_eq_true h
  | succ n ih =>
    intro k p h a ha
    have h : (bcT n (2 * k) p && bcT n (2 * k + 1) (p + 1)) = true := h
    rw [Bool.and_eq_true] at h
    have e : a / 2 ^ n / 2 = k := by
      rw [Nat.div_div_eq_div_mul, ← Nat.pow_succ]
      exact ha
    have e2 : pop16 a (n + 1) = pop16 a n + (a / 2 ^ n) % 2 := by
      show pop16 a n + (a >>> n) % 2 = _
      rw [Nat.shiftRight_eq_div_pow]
    rcases Nat.mod_two_eq_zero_or_one (a / 2 ^ n) with z | z
    · rw [ih _ _ h.1 a (by omega), e2, z]
      rfl
    · rw [ih _ _ h.2 a (by omega), e2, z]
      omega
theorem nbc_pop {a : Nat} (h : a < 65536) : nbc a = pop16 a 16 := by
  rw [bcT_get 12 (a / 2 ^ 12) (pop4 (a / 2 ^ 12)) (bc_all _ (by omega)) a rfl, pop_split a 12 4]
  show _ = pop16 a 12 + (0 + (a >>> 12) % 2 + (a >>> 13) % 2 + (a >>> 14) % 2 + (a >>> 15) % 2)
  simp only [Nat.shiftRight_eq_div_pow, pop4]
  omega
theorem nI_bv (a : Nat) : (nI a).toBitVec = BitVec.ofNat 32 a := rfl
theorem tb_nI {a : Nat} (ha : a < 2 ^ 31) (k : Nat) : tb (nI a) k = a.testBit k := by
  unfold tb
  rw [nI_bv, BitVec.getLsbD_ofNat]
  by_cases h : k < 32
  · simp [h]
  · have : a.testBit k = false := Nat.testBit_lt_two_pow (Nat.lt_of_lt_of_le ha (Nat.pow_le_pow_right (by decide) (by omega)))
    simp [this]
theorem cnt_pop {a : Nat} (ha : a < 2 ^ 31) (N : Nat) : cnt (nI a) N = pop16 a N := by
  induction N with
  | zero => rfl
  | succ n ih =>
    show cnt (nI a) n + (if tb (nI a) n = true then 1 else 0) = pop16 a n + (a >>> n) % 2
    rw [ih, tb_nI ha, Nat.testBit_eq_decide_div_mod_eq, Nat.shiftRight_eq_div_pow]
    have := Nat.mod_two_eq_zero_or_one (a / 2 ^ n)
    rcases this with z | z <;> simp [z]
theorem nI_and (a b : Nat) : nI a &&& nI b = nI (a &&& b) := by
  apply Int32.toBitVec_inj.mp
  show BitVec.ofNat 32 a &&& BitVec.ofNat 32 b = BitVec.ofNat 32 (a &&& b)
  exact BitVec.ofNat_and.symm
theorem nI_ushr {a j : Nat} (ha : a < 2 ^ 31) {w : UInt32} (hw : (w % 32).toBitVec.toNat = j) : ((nI a).toUInt32 >>> w).toInt32 = nI (a >>> j) := by
  apply Int32.toBitVec_inj.mp
  show BitVec.ofNat 32 a >>> (w % 32).toBitVec = BitVec.ofNat 32 (a >>> j)
  rw [BitVec.ushiftRight_eq', hw]
  apply BitVec.eq_of_toNat_eq
  rw [BitVec.toNat_ushiftRight, BitVec.toNat_ofNat, BitVec.toNat_ofNat, Nat.mod_eq_of_lt (by omega)]
  rw [Nat.mod_eq_of_lt]
  have : a >>> j ≤ a := by rw [Nat.shiftRight_eq_div_pow]; exact Nat.div_le_self a _
  omega
theorem shr_le (a j : Nat) : a >>> j ≤ a := by rw [Nat.shiftRight_eq_div_pow]; exact Nat.div_le_self a _
theorem nbc_eq (a : Nat) : nbc a = (
  let v1 := a - ((a >>> 1) &&& 1431655765)
  let v2 := (v1 &&& 858993459) + ((v1 >>> 2) &&& 858993459)
  let v3 := (v2 + (v2 >>> 4)) &&& 252645135
  let v4 := v3 + (v3 >>> 8)
  let v5 := v4 + (v4 >>> 16)
  v5 &&& 63) := rfl
theorem e_bitCount_n {a : Nat} (h : a < 65536) : fJ6_bitCount_0f7a4 (nI a) = some (nI (nbc a)) := by
  rw [nbc_eq]
  unfold fJ6_bitCount_0f7a4
  have b1 : (a >>> 1) &&& 1431655765 ≤ a := Nat.le_trans Nat.and_le_left (shr_le a 1)
  rw [nI_ushr (j := 1) (by omega) (by decide), show (1431655765 : Int32) = nI 1431655765 from rfl, nI_and, pk_sub b1, bn_s]
  generalize hv1 : a - ((a >>> 1) &&& 1431655765) = v1
  have l1 : v1 < 65536 := by omega
  have b2 := shr_le v1 2
  have b3 : v1 &&& 858993459 ≤ v1 := Nat.and_le_left
  have b4 : (v1 >>> 2) &&& 858993459 ≤ v1 >>> 2 := Nat.and_le_left
  rw [nI_ushr (j := 2) (by omega) (by decide), show (858993459 : Int32) = nI 858993459 from rfl, nI_and, nI_and, nI_add, bn_s]
  simp only
  generalize hv2 : (v1 &&& 858993459) + ((v1 >>> 2) &&& 858993459) = v2
  have l2 : v2 < 131072 := by omega
  have b5 := shr_le v2 4
  rw [nI_ushr (j := 4) (by omega) (by decide), nI_add, show (252645135 : Int32) = nI 252645135 from rfl, nI_and, bn_s]
  have b6 : (v2 + (v2 >>> 4)) &&& 252645135 ≤ v2 + (v2 >>> 4) := Nat.and_le_left
  generalize hv3 : (v2 + (v2 >>> 4)) &&& 252645135 = v3
  have l3 : v3 < 262144 := by omega
  have b7 := shr_le v3 8
  rw [nI_ushr (j := 8) (by omega) (by decide), nI_add, bn_s]
  generalize hv4 : v3 + (v3 >>> 8) = v4
  have l4 : v4 < 524288 := by omega
  have b8 := shr_le v4 16
  rw [nI_ushr (j := 16) (by omega) (by decide), nI_add, bn_s, show (63 : Int32) = nI 63 from rfl, nI_and]
/-- of a set of less than 16 -/
theorem e_bitCount {x : Int32} (h : ∀ k, tb x k = true → k < 16) : fJ6_bitCount_0f7a4 x = some (nI (cnt x 16)) := by
  have hx : x.toBitVec.toNat < 65536 := by
    refine Nat.lt_pow_two_of_testBit (n := 16) _ (fun i hi => ?_)
    have : ¬ tb x i = true := fun q => absurd (h i q) (by omega)
    unfold tb at this
    rw [BitVec.getLsbD] at this
    exact Bool.eq_false_iff.mpr this
  have e : x = nI x.toBitVec.toNat := by
    apply Int32.toBitVec_inj.mp
    rw [nI_bv, BitVec.ofNat_toNat, BitVec.setWidth_eq]
  generalize x.toBitVec.toNat = a at hx e
  subst e
  rw [e_bitCount_n hx, nbc_pop hx, cnt_pop (by omega)]
/-- beyond the last member the count stays -/
theorem cnt_top {x : Int32} {N M : Nat} (h : ∀ k, tb x k = true → k < N) (hNM : N ≤ M) : cnt x M = cnt x N := by
  obtain ⟨d, rfl⟩ : ∃ d, M = N + d := ⟨M - N, by omega⟩
  clear hNM
  induction d with
  | zero => rfl
  | succ d ih =>
    show cnt x (N + d) + (if tb x (N + d) = true then 1 else 0) = cnt x N
    rw [if_neg (fun q => absurd (h _ q) (by omega)), ih]
    rfl
