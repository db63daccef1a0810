theorem mW_congr {cI cM : ClassId} {a b : Nat → Nat} {u : MS} (h : ∀ j, j < 21 → a j = b j) : mW cI cM a u = mW cI cM b u := by
  unfold mW
  rw [h 0 (by decide), h 1 (by decide), h 2 (by decide), h 3 (by decide), h 4 (by decide), h 5 (by decide), h 6 (by decide), h 7 (by decide), h 8 (by decide), h 9 (by decide), h 10 (by decide), h 11 (by decide), h 12 (by decide), h 13 (by decide), h 14 (by decide), h 15 (by decide), h 16 (by decide), h 17 (by decide), h 18 (by decide), h 19 (by decide), h 20 (by decide)]
abbrev rmX3_init : Room := { frames := 3, cells := 169, slots := 3808, locals := 52 }
set_option maxHeartbeats 16000000 in
set_option maxRecDepth 100000 in
theorem kX3_init (l : Launch) (D : va_G) (cI cM : ClassId) (h0 sz : Nat) : CM l yX3_init wsX3_init rmX3_init D cI cM h0 sz [(h0, .inr (3, [.int 0, .int 0, .null]))] (fun a => B_h cI cM h0 (a 0) (fun k j => a (1 + 21 * k + j)) 0 0 ++ hW cI cM (fun k j => a (1 + 21 * k + j)) (fun _ => MS0)) 169 3808 := by
  refine CM.of (cc := cX3_init) (maxL := 2) (by decide) rfl rfl (Nat.le_of_ble_eq_true rfl) ?_
  intro p e s m below meth c ls hx hb hr hml hown hts hlk hin hsz hKK hAO hP hD hS hA hl
  subst hsz
  have hown : s.vm.findClass RX3 = some m.cls := hown
  have SS : CallFix p m c cX3_init 2 s [Value.ref h0].toArray wsX3_init RX3 := ⟨hx, hb, hml, hown, hts⟩
  have hinX3 : ∀ w ∈ u_ws RX3 TX3 3, w ∈ wsX3_init := by decide +kernel
  have hinX6 : ∀ w ∈ u_ws RX6 TX6 3, w ∈ wsX3_init := by decide +kernel
  have lk11 := hts (.fieldLink RX3 11 "SignatureChanger$History" "saved" "[LSignatureChanger$Model;") (List.mem_of_getElem? (i := 5) rfl)
  have L : ∀ (q1 n i : Nat), i + n = 8 → ∀ (ad : Nat → Nat → Nat) (f : Nat → Option Nat) (H : Heap) (locs : List Loc), (∀ k, k < i → f k = some (ad k 0)) → va_P D vwCl (([(h0, .inr (3, [.int 0, .int 0, .ref q1])), (q1, .inl (cM, 8, .inr (.inr (.inr (.inr f)))))] : va_W) ++ (List.range i).flatMap (fun k => mW cI cM (ad k) MS0)) H → va_D (fun q => q = h0 ∨ s.heap.size ≤ q) (([(h0, .inr (3, [.int 0, .int 0, .ref q1])), (q1, .inl (cM, 8, .inr (.inr (.inr (.inr f)))))] : va_W) ++ (List.range i).flatMap (fun k => mW cI cM (ad k) MS0)) → va_S (fun q => q = h0 ∨ s.heap.size ≤ q) s.heap H locs → ∀ ls : Array Slot, lv_has ls 2 [(0, .ref h0), (1, .int (nI i))] → W p l e rmX3_init s m [Value.ref h0].toArray below meth c H locs (1 + 21 * i) (8 + 475 * i) (MQ below (CQ D h0 s.heap.size (fun a => B_h cI cM h0 (a 0) (fun k j => a (1 + 21 * k + j)) 0 0 ++ hW cI cM (fun k j => a (1 + 21 * k + j)) (fun _ => MS0))) [Value.ref h0].toArray s 169 3808 (fun q => q = h0 ∨ s.heap.size ≤ q)) (F0 m 15 ls []) := by
    intro q1 n
    induction n with
    | zero =>
      intro i hi ad f H locs hf hP hD hS ls hl
      have hi : i = 8 := by omega
      subst hi
      refine lv_iload_n hx hb dX3_init_15 rfl (lv_at hl 1 rfl) ?_
      refine lv_bipush (v := 8) hx hb dX3_init_16 (by decide) ?_
      refine lv_icmp_ge (tgt := 40) hx hb dX3_init_18 (by decide) (fun c1 => ?_) (fun c1 => absurd (by decide) c1)
      obtain ⟨a, ha⟩ : ∃ a : Nat → Nat, a = (fun k => match k with | 0 => q1 | k + 1 => ad (k / 21) (k % 21)) := ⟨_, rfl⟩
      have ha0 : a 0 = q1 := by rw [ha]
      have haj : ∀ k j, j < 21 → a (1 + 21 * k + j) = ad k j := by
        intro k j hj
        rw [ha, show 1 + 21 * k + j = (21 * k + j) + 1 by omega]
        show ad ((21 * k + j) / 21) ((21 * k + j) % 21) = ad k j
        rw [show (21 * k + j) / 21 = k by omega, show (21 * k + j) % 21 = j by omega]
      have hwe : hW cI cM (fun k j => a (1 + 21 * k + j)) (fun _ => MS0) = (List.range 8).flatMap (fun k => mW cI cM (ad k) MS0) := by
        unfold hW
        exact congrArg (fun g => (List.range 8).flatMap g) (funext fun k => mW_congr (fun j hj => haj k j hj))
      refine kRetC hx hb hr hlk a ?_ ?_ hS (Nat.le_of_ble_eq_true rfl) (Nat.le_of_ble_eq_true rfl) dX3_init_40
      · show va_P D vwCl (B_h cI cM h0 (a 0) (fun k j => a (1 + 21 * k + j)) 0 0 ++ hW cI cM (fun k j => a (1 + 21 * k + j)) (fun _ => MS0)) H
        rw [hwe, ha0]
        intro k q hq
        match k, hq with
        | 0, hq => exact hP 0 q hq
        | 1, hq =>
          cases hq
          have h1 : H[q1]? = some (vp_cell cM (8, .inr (.inr (.inr (.inr f))))) := hP 1 _ rfl
          exact h1.trans (congrArg some (cell_eqq (fun k hk => (hf k hk).trans (congrArg some (haj k 0 (by decide)).symm))))
        | k + 2, hq => exact hP (k + 2) q hq
      · show va_D _ (B_h cI cM h0 (a 0) (fun k j => a (1 + 21 * k + j)) 0 0 ++ hW cI cM (fun k j => a (1 + 21 * k + j)) (fun _ => MS0))
        rw [hwe, ha0]
        exact va_D.fst (by rw [List.map_append, List.map_append]; rfl) hD
    | succ n ih =>
      intro i hi ad f H locs hf hP hD hS ls hl
      refine lv_iload_n hx hb dX3_init_15 rfl (lv_at hl 1 rfl) ?_
      refine lv_bipush (v := 8) hx hb dX3_init_16 (by decide) ?_
      refine lv_icmp_ge (tgt := 40) hx hb dX3_init_18 (by decide) (fun c1 => absurd c1 (nI_ge (a := i) (b := 8) (by omega) (by decide))) (fun c1 => ?_)
      refine lv_aload_n hx hb dX3_init_21 rfl (lv_at hl 0 rfl) ?_
      refine va_get (D := D) (ci := 3) (v := .ref q1) (C := RX3) (T := TX3) (N := 3) hx hb hts hinX3 hown hKK.1 hP 0 rfl rfl 2 (by decide) lk11 (fun _ h9 => h9) rfl dX3_init_22 ?_
      refine lv_iload_n hx hb dX3_init_25 rfl (lv_at hl 1 rfl) ?_
      refine va_new (ci := 6) (fs := [.null, .null, .null]) (C := RX6) (T := TX6) (N := 3) hx hb hts hinX6 tyX6 tyX6_ok hown (hts (.classLink RX3 9 RX6) (List.mem_of_getElem? (i := 4) rfl)) (hts (.instantiable RX6 3) (List.mem_of_getElem? (i := 6) rfl)) (hts (.initialized RX6) (List.mem_of_getElem? (i := 7) rfl)) hKK.1 hP hD hS hA rfl (fun j hj => by rcases (show j = 0 ∨ j = 1 ∨ j = 2 by omega) with rfl | rfl | rfl <;> rfl) (show 1 + 21 * i + 1 ≤ 169 by omega) (show 8 + 475 * i + 3 ≤ 3808 by omega) dX3_init_26 (fun q5 H hP hD hS => ?_)
      refine lv_dup hx hb dX3_init_29 rfl ?_
      refine kINn (n := 0) (q5 := q5) (wr := ([(h0, .inr (3, [.int 0, .int 0, .ref q1])), (q1, .inl (cM, 8, .inr (.inr (.inr (.inr f)))))] : va_W) ++ (List.range i).flatMap (fun k => mW cI cM (ad k) MS0)) (rest := [.ref q5, .int (nI i), .ref q1]) SS hKK hAO (kX6_init l D cI cM q5 H.size) ⟨va_cnB 0 hts gX3_init_X6_init_n17 rfl rfl rfl (hKK.2.at 5 rfl) (hts (.initialized RX6) (List.mem_of_getElem? (i := 7) rfl)) (by decide +kernel) ⟨Nat.le_of_ble_eq_true rfl, Nat.le_of_ble_eq_true rfl⟩, rfl, hts (.instanceMethod yX6_init) (List.mem_of_getElem? (i := 8) rfl)⟩ hP hD hS hA hl.1 rfl (Nat.le_of_ble_eq_true rfl) dX3_init_30 ⟨show 1 + 21 * i + 1 + 20 ≤ 169 by omega, show 8 + 475 * i + 3 + 472 ≤ 3808 by omega⟩ (fun a H locs hP hD hS => ?_)
      obtain ⟨X, hX⟩ : ∃ X : va_W, X = (List.range i).flatMap (fun k => mW cI cM (ad k) MS0) := ⟨_, rfl⟩
      rw [← hX] at hP hD
      have hpm : ((([(h0, .inr (3, [.int 0, .int 0, .ref q1])), (q1, .inl (cM, 8, .inr (.inr (.inr (.inr f)))))] : va_W) ++ X) ++ W_o_t_m_k cI cM q5 (a 0) (a 1) (a 2) (a 3) (a 4) (a 5) (a 6) (a 7) (a 8) (a 9) (a 10) (a 11) (a 12) (a 13) (a 14) (a 15) (a 16) (a 17) (a 18) (a 19) 0 0 z1 0 z1 z1 z1 z1 z1 0 0 z1 z1 z1 z1 z1 z1 z1 z1 z1 z1 z1).Perm (([(h0, .inr (3, [.int 0, .int 0, .ref q1])), (q1, .inl (cM, 8, .inr (.inr (.inr (.inr f)))))] : va_W) ++ (W_o_t_m_k cI cM q5 (a 0) (a 1) (a 2) (a 3) (a 4) (a 5) (a 6) (a 7) (a 8) (a 9) (a 10) (a 11) (a 12) (a 13) (a 14) (a 15) (a 16) (a 17) (a 18) (a 19) 0 0 z1 0 z1 z1 z1 z1 z1 0 0 z1 z1 z1 z1 z1 z1 z1 z1 z1 z1 z1 ++ X)) := by
        rw [List.append_assoc]
        exact List.perm_append_comm.append_left _
      have hP := hP.perm hpm
      have hD := hD.perm hpm
      have hin8 : vp_in (nI i) 8 := vp_in_nI (by omega) (by decide)
      refine va_astq (r := (RX6, TX6, 3)) hx hb hKK.1 hP hD hS 1 1 2 6 rfl rfl rfl rfl hin8 dX3_init_33 (fun H locs hP hD hS => ?_)
      rw [nI_clamp (n := i) (by omega)] at hP hD
      have hP : va_P D vwCl (([(h0, .inr (3, [.int 0, .int 0, .ref q1])), (q1, .inl (cM, 8, .inr (.inr (.inr (.inr (va_up f i (some q5)))))))] : va_W) ++ (W_o_t_m_k cI cM q5 (a 0) (a 1) (a 2) (a 3) (a 4) (a 5) (a 6) (a 7) (a 8) (a 9) (a 10) (a 11) (a 12) (a 13) (a 14) (a 15) (a 16) (a 17) (a 18) (a 19) 0 0 z1 0 z1 z1 z1 z1 z1 0 0 z1 z1 z1 z1 z1 z1 z1 z1 z1 z1 z1 ++ X)) H := hP
      have hD : va_D _ (([(h0, .inr (3, [.int 0, .int 0, .ref q1])), (q1, .inl (cM, 8, .inr (.inr (.inr (.inr (va_up f i (some q5)))))))] : va_W) ++ (W_o_t_m_k cI cM q5 (a 0) (a 1) (a 2) (a 3) (a 4) (a 5) (a 6) (a 7) (a 8) (a 9) (a 10) (a 11) (a 12) (a 13) (a 14) (a 15) (a 16) (a 17) (a 18) (a 19) 0 0 z1 0 z1 z1 z1 z1 z1 0 0 z1 z1 z1 z1 z1 z1 z1 z1 z1 z1 z1 ++ X)) := hD
      refine lv_iinc (v := nI i + 1) (lv' := [(1, .int (nI i + 1)), (0, .ref h0)]) hx hb dX3_init_34 hl (k := 1) rfl rfl (by decide) rfl (fun ls hl => ?_)
      refine lv_goto (tgt := 15) hx hb dX3_init_37 (by decide) ?_
      obtain ⟨ad', had⟩ : ∃ ad' : Nat → Nat → Nat, ad' = (fun k => if k = i then (fun j => match j with | 0 => q5 | j + 1 => a j) else ad k) := ⟨_, rfl⟩
      have hX' : (List.range (i + 1)).flatMap (fun k => mW cI cM (ad' k) MS0) = X ++ W_o_t_m_k cI cM q5 (a 0) (a 1) (a 2) (a 3) (a 4) (a 5) (a 6) (a 7) (a 8) (a 9) (a 10) (a 11) (a 12) (a 13) (a 14) (a 15) (a 16) (a 17) (a 18) (a 19) 0 0 z1 0 z1 z1 z1 z1 z1 0 0 z1 z1 z1 z1 z1 z1 z1 z1 z1 z1 z1 := by
        rw [List.range_succ, List.flatMap_append, List.flatMap_cons, List.flatMap_nil, List.append_nil, hX]
        have e1 : (List.range i).flatMap (fun k => mW cI cM (ad' k) MS0) = (List.range i).flatMap (fun k => mW cI cM (ad k) MS0) := by
          rw [List.flatMap_def, List.flatMap_def]
          refine congrArg List.flatten (List.map_congr_left (fun k hk => ?_))
          have hk := List.mem_range.mp hk
          rw [had]
          show mW cI cM (if k = i then _ else ad k) MS0 = _
          rw [if_neg (by omega)]
        rw [e1]
        have e2 : mW cI cM (ad' i) MS0 = W_o_t_m_k cI cM q5 (a 0) (a 1) (a 2) (a 3) (a 4) (a 5) (a 6) (a 7) (a 8) (a 9) (a 10) (a 11) (a 12) (a 13) (a 14) (a 15) (a 16) (a 17) (a 18) (a 19) 0 0 z1 0 z1 z1 z1 z1 z1 0 0 z1 z1 z1 z1 z1 z1 z1 z1 z1 z1 z1 := by
          rw [had]
          show mW cI cM (if i = i then _ else ad i) MS0 = _
          rw [if_pos rfl]
          rfl
        rw [e2]
      have hp2 : (([(h0, .inr (3, [.int 0, .int 0, .ref q1])), (q1, .inl (cM, 8, .inr (.inr (.inr (.inr (va_up f i (some q5)))))))] : va_W) ++ (W_o_t_m_k cI cM q5 (a 0) (a 1) (a 2) (a 3) (a 4) (a 5) (a 6) (a 7) (a 8) (a 9) (a 10) (a 11) (a 12) (a 13) (a 14) (a 15) (a 16) (a 17) (a 18) (a 19) 0 0 z1 0 z1 z1 z1 z1 z1 0 0 z1 z1 z1 z1 z1 z1 z1 z1 z1 z1 z1 ++ X)).Perm (([(h0, .inr (3, [.int 0, .int 0, .ref q1])), (q1, .inl (cM, 8, .inr (.inr (.inr (.inr (va_up f i (some q5)))))))] : va_W) ++ (List.range (i + 1)).flatMap (fun k => mW cI cM (ad' k) MS0)) := by
        rw [hX']
        exact List.perm_append_comm.append_left _
      refine W.widen (k := 1 + 21 * (i + 1)) (n := 8 + 475 * (i + 1)) (by omega) (by omega) ?_
      refine ih (i + 1) (by omega) ad' (va_up f i (some q5)) H locs (fun k hk => ?_) (hP.perm hp2) (hD.perm hp2) hS ls ?_
      · rw [had]
        by_cases hki : k = i
        · subst hki
          show (if k = k then some q5 else f k) = some ((if k = k then _ else ad k) 0)
          rw [if_pos rfl, if_pos rfl]
        · show (if k = i then some q5 else f k) = some ((if k = i then _ else ad k) 0)
          rw [if_neg hki, if_neg hki]
          exact hf k (by omega)
      · rw [← nI_1]
        exact lv_sub hl [1, 0] rfl
  refine lv_aload_n hx hb dX3_init_0 rfl (lv_at hl 0 rfl) ?_
  refine W.objInit hx hb hown (hts (.methodLink RX3 3 objectInit) (List.mem_of_getElem? (i := 1) rfl)) (hts (.instanceMethod objectInit) (List.mem_of_getElem? (i := 2) rfl)) (hts (.code objectInit ⟨#[0xb1]⟩ 1 none) (List.mem_of_getElem? (i := 3) rfl)) rfl (by rw [hml]; exact hl.1) rfl dX3_init_1 (Nat.le_of_ble_eq_true rfl) (Nat.le_of_ble_eq_true rfl) ?_
  refine W.eq (g2 := F0 m 4 ls []) rfl ?_
  refine lv_aload_n hx hb dX3_init_4 rfl (lv_at hl 0 rfl) ?_
  refine lv_bipush (v := 8) hx hb dX3_init_5 (by decide) ?_
  refine va_newq (N' := 8) hx hb hown (hts (.classLink RX3 9 RX6) (List.mem_of_getElem? (i := 4) rfl)) hAO hKK.1 hP hD hS hA (by decide) rfl (Nat.le_of_ble_eq_true rfl) (Nat.le_of_ble_eq_true rfl) (Nat.le_of_ble_eq_true rfl) dX3_init_7 (fun q1 cA H hK' hP hD hS => ?_)
  have h1 : s.vm.findClass ("[" ++ (FieldType.object RX6).toString) = some cM := by
    obtain ⟨kA, comp, -, -, -, h4⟩ := (hKK.1.2 1 (cM, .object RX6) rfl).2
    exact h4
  have h2 : s.vm.findClass ("[" ++ (FieldType.object RX6).toString) = some cA := by
    obtain ⟨kA, comp, -, -, -, h4⟩ := (hK'.2 2 (cA, .object RX6) rfl).2
    exact h4
  have e9 : cA = cM := Option.some.inj (h2.symm.trans h1)
  subst e9
  refine va_putF (D := D) (ci := 3) (v := .ref q1) (ty := .array (.object "SignatureChanger$Model")) (C := RX3) (T := TX3) (N := 3) hx hb hts hinX3 tyX3 tyX3_ok nmX3 hown hKK.1 hP hD hS 0 rfl rfl 2 (by decide) lk11 (fun _ h9 => h9) rfl hin rfl (by decide +kernel) rfl rfl (Nat.le_of_ble_eq_true rfl) dX3_init_10 (fun H locs hP hD hS => ?_)
  refine lv_iconst (v := 0) hx hb dX3_init_13 (by decide) ?_
  refine lv_istore_n (lv' := [(1, .int 0), (0, .ref h0)]) hx hb dX3_init_14 rfl hl (by decide) rfl (fun ls hl => ?_)
  exact L q1 8 0 rfl (fun _ _ => 0) (fun _ => none) H locs (fun k hk => absurd hk (Nat.not_lt_zero k)) hP hD hS ls (lv_sub hl [1, 0] rfl)
