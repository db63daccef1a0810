/-! generated: X2.evaluate X2.received X2.resultOf X7.copyFrom X5.copyFrom X6.copyFrom X3.remember X4.look X4.ofKind X8.conflict X4.staysEarlier X4.keepsOrder J6.bitCount_0f7a4 X4.choose X5.exists X5.withSignature X5.smallest X5.declaredBy X5.typesOf X5.sameParameters -/
set_option maxHeartbeats 8000000 in
set_option maxRecDepth 100000 in
theorem qX2_evaluate (l : Launch) (D : va_G) (cI cM : ClassId) (a_e a_e_temporaries a_e_arguments a_k a_k_staticType a_k_dynamicType a_k_target a_k_argumentCounts a_k_temporaryCounts a_k_keys a_k_kinds a_k_values a_k_temporaryKinds a_k_newKinds a_k_newValues : Nat) (e_counter : Int32) (e_temporaries : Nat → Int32) (e_arguments : Nat → Int32) (k_count : Int32) (k_frozenSet : Int32) (k_staticType : Nat → Int32) (k_dynamicType : Nat → Int32) (k_target : Nat → Int32) (k_argumentCounts : Nat → Int32) (k_temporaryCounts : Nat → Int32) (k_keys : Nat → Int32) (k_kinds : Nat → Int32) (k_values : Nat → Int32) (k_temporaryKinds : Nat → Int32) (k_newKinds : Nat → Int32) (k_newValues : Nat → Int32) (x2 : Int32) (r_e_counter : Int32) (r_e_temporaries : Nat → Int32) (r_e_arguments : Nat → Int32) (h : fX2_evaluate e_counter e_temporaries e_arguments k_argumentCounts k_temporaryCounts k_kinds k_values k_temporaryKinds x2 = some (r_e_counter, r_e_temporaries, r_e_arguments)) : IM l yX2_evaluate wsX2_evaluate rmX2_evaluate D cI cM [.ref a_e, .ref a_k, .int x2] (W_e_k cI cM a_e a_e_temporaries a_e_arguments a_k a_k_staticType a_k_dynamicType a_k_target a_k_argumentCounts a_k_temporaryCounts a_k_keys a_k_kinds a_k_values a_k_temporaryKinds a_k_newKinds a_k_newValues e_counter e_temporaries e_arguments k_count k_frozenSet k_staticType k_dynamicType k_target k_argumentCounts k_temporaryCounts k_keys k_kinds k_values k_temporaryKinds k_newKinds k_newValues) (W_e_k cI cM a_e a_e_temporaries a_e_arguments a_k a_k_staticType a_k_dynamicType a_k_target a_k_argumentCounts a_k_temporaryCounts a_k_keys a_k_kinds a_k_values a_k_temporaryKinds a_k_newKinds a_k_newValues r_e_counter r_e_temporaries r_e_arguments k_count k_frozenSet k_staticType k_dynamicType k_target k_argumentCounts k_temporaryCounts k_keys k_kinds k_values k_temporaryKinds k_newKinds k_newValues) none := by
  refine IM.of (cc := cX2_evaluate) (maxL := 4) (ret := none) (by decide) rfl (Nat.le_of_ble_eq_true rfl) ?_
  intro p e s m below meth c ls hx hb hr hml hown hts hlk hKK hP hD hS hl
  have hown : s.vm.findClass RX2 = some m.cls := hown
  have hl : lv_has ls 4 [(0, .ref a_e), (1, .ref a_k), (2, .int x2)] := hl
  generalize hav : ([.ref a_e, .ref a_k, .int x2] : List Value) = av at hts ⊢
  generalize hw1 : W_e_k cI cM a_e a_e_temporaries a_e_arguments a_k a_k_staticType a_k_dynamicType a_k_target a_k_argumentCounts a_k_temporaryCounts a_k_keys a_k_kinds a_k_values a_k_temporaryKinds a_k_newKinds a_k_newValues r_e_counter r_e_temporaries r_e_arguments k_count k_frozenSet k_staticType k_dynamicType k_target k_argumentCounts k_temporaryCounts k_keys k_kinds k_values k_temporaryKinds k_newKinds k_newValues = w1
  generalize hw0 : W_e_k cI cM a_e a_e_temporaries a_e_arguments a_k a_k_staticType a_k_dynamicType a_k_target a_k_argumentCounts a_k_temporaryCounts a_k_keys a_k_kinds a_k_values a_k_temporaryKinds a_k_newKinds a_k_newValues e_counter e_temporaries e_arguments k_count k_frozenSet k_staticType k_dynamicType k_target k_argumentCounts k_temporaryCounts k_keys k_kinds k_values k_temporaryKinds k_newKinds k_newValues = w0 at hD hS ⊢
  have hP : va_P D vwCl (W_e_k cI cM a_e a_e_temporaries a_e_arguments a_k a_k_staticType a_k_dynamicType a_k_target a_k_argumentCounts a_k_temporaryCounts a_k_keys a_k_kinds a_k_values a_k_temporaryKinds a_k_newKinds a_k_newValues e_counter e_temporaries e_arguments k_count k_frozenSet k_staticType k_dynamicType k_target k_argumentCounts k_temporaryCounts k_keys k_kinds k_values k_temporaryKinds k_newKinds k_newValues) s.heap := hP
  have hD : va_D (fun q => q ∈ w0.map (·.1)) (W_e_k cI cM a_e a_e_temporaries a_e_arguments a_k a_k_staticType a_k_dynamicType a_k_target a_k_argumentCounts a_k_temporaryCounts a_k_keys a_k_kinds a_k_values a_k_temporaryKinds a_k_newKinds a_k_newValues e_counter e_temporaries e_arguments k_count k_frozenSet k_staticType k_dynamicType k_target k_argumentCounts k_temporaryCounts k_keys k_kinds k_values k_temporaryKinds k_newKinds k_newValues) := by rw [hw0]; exact hD
  have SS : CallFix p m c cX2_evaluate 4 s av.toArray wsX2_evaluate RX2 := ⟨hx, hb, hml, hown, hts⟩
  have hinX0 : ∀ w ∈ u_ws RX0 TX0 13, w ∈ wsX2_evaluate := by decide +kernel
  have hinX2 : ∀ w ∈ u_ws RX2 TX2 3, w ∈ wsX2_evaluate := by decide +kernel
  have lk9 := hts (.fieldLink RX2 9 "SignatureChanger$Evaluation" "temporaries" "[I") (List.mem_of_getElem? (i := 3) rfl)
  have lk15 := hts (.fieldLink RX2 15 "SignatureChanger$Evaluation" "arguments" "[I") (List.mem_of_getElem? (i := 5) rfl)
  have lk18 := hts (.fieldLink RX2 18 "SignatureChanger$Evaluation" "counter" "I") (List.mem_of_getElem? (i := 1) rfl)
  have lk22 := hts (.fieldLink RX2 22 "SignatureChanger$Calls" "temporaryCounts" "[I") (List.mem_of_getElem? (i := 2) rfl)
  have lk35 := hts (.fieldLink RX2 35 "SignatureChanger$Calls" "argumentCounts" "[I") (List.mem_of_getElem? (i := 4) rfl)
  have cw27 : CallW rmX2_evaluate s av.toArray RX2 RX0 27 yX0_temporaryKindOf cX0_temporaryKindOf 3 (some .int) wsX0_temporaryKindOf rmX0_temporaryKindOf 0 0 2 := cwV 2 hts gX2_evaluate_X0_temporaryKindOf rfl rfl rfl (by decide +kernel) ⟨Nat.le_of_ble_eq_true rfl, Nat.le_of_ble_eq_true rfl⟩
  have cw31 : CallW rmX2_evaluate s av.toArray RX2 RX2 31 yX2_readOrTick cX2_readOrTick 3 (some .int) wsX2_readOrTick rmX2_readOrTick 0 0 1 := cwV 1 hts gX2_evaluate_X2_readOrTick rfl rfl rfl (by decide +kernel) ⟨Nat.le_of_ble_eq_true rfl, Nat.le_of_ble_eq_true rfl⟩
  have cw38 : CallW rmX2_evaluate s av.toArray RX2 RX0 38 yX0_kindOf cX0_kindOf 3 (some .int) wsX0_kindOf rmX0_kindOf 0 0 2 := cwV 2 hts gX2_evaluate_X0_kindOf rfl rfl rfl (by decide +kernel) ⟨Nat.le_of_ble_eq_true rfl, Nat.le_of_ble_eq_true rfl⟩
  have cw41 : CallW rmX2_evaluate s av.toArray RX2 RX0 41 yX0_valueOf cX0_valueOf 3 (some .int) wsX0_valueOf rmX0_valueOf 0 0 2 := cwV 2 hts gX2_evaluate_X0_valueOf rfl rfl rfl (by decide +kernel) ⟨Nat.le_of_ble_eq_true rfl, Nat.le_of_ble_eq_true rfl⟩
  have cw44 : CallW rmX2_evaluate s av.toArray RX2 RX2 44 yX2_valueOf cX2_valueOf 3 (some .int) wsX2_valueOf rmX2_valueOf 0 0 2 := cwV 2 hts gX2_evaluate_X2_valueOf rfl rfl rfl (by decide +kernel) ⟨Nat.le_of_ble_eq_true rfl, Nat.le_of_ble_eq_true rfl⟩
  have F41 : ∀ (n : Nat) (H : Heap) (locs : List Loc) (e_counter : Int32) (e_temporaries : Nat → Int32) (e_arguments : Nat → Int32) (y2 : Int32) (y3 : Int32), lX2_evaluate_41 k_argumentCounts k_temporaryCounts k_kinds k_values k_temporaryKinds n e_counter e_temporaries e_arguments y2 y3 = some (r_e_counter, r_e_temporaries, r_e_arguments) → va_P D vwCl (W_e_k cI cM a_e a_e_temporaries a_e_arguments a_k a_k_staticType a_k_dynamicType a_k_target a_k_argumentCounts a_k_temporaryCounts a_k_keys a_k_kinds a_k_values a_k_temporaryKinds a_k_newKinds a_k_newValues e_counter e_temporaries e_arguments k_count k_frozenSet k_staticType k_dynamicType k_target k_argumentCounts k_temporaryCounts k_keys k_kinds k_values k_temporaryKinds k_newKinds k_newValues) H → va_D (fun q => q ∈ (w0).map (·.1)) (W_e_k cI cM a_e a_e_temporaries a_e_arguments a_k a_k_staticType a_k_dynamicType a_k_target a_k_argumentCounts a_k_temporaryCounts a_k_keys a_k_kinds a_k_values a_k_temporaryKinds a_k_newKinds a_k_newValues e_counter e_temporaries e_arguments k_count k_frozenSet k_staticType k_dynamicType k_target k_argumentCounts k_temporaryCounts k_keys k_kinds k_values k_temporaryKinds k_newKinds k_newValues) → va_S (fun q => q ∈ (w0).map (·.1)) s.heap H locs → ∀ ls : Array Slot, lv_has ls 4 [(0, .ref a_e), (1, .ref a_k), (2, .int y2), (3, .int y3)] → WI p l e rmX2_evaluate s m av below meth c D w0 w1 none H locs 41 ls [] := by
    intro n
    induction n with
    | zero => intro H locs e_counter e_temporaries e_arguments y2 y3 h; exact no_some h
    | succ n ih =>
      intro H locs e_counter e_temporaries e_arguments y2 y3 h hP hD hS ls hl
      rw [lX2_evaluate_41_s] at h
      refine lv_iload_n hx hb dX2_evaluate_41 rfl (lv_at hl 3 rfl) ?_
      refine lv_aload_n hx hb dX2_evaluate_42 rfl (lv_at hl 1 rfl) ?_
      refine va_get (D := D) (ci := 0) (v := .ref a_k_argumentCounts) (C := RX0) (T := TX0) (N := 13) hx hb hts hinX0 hown hKK.1 hP 3 rfl rfl 5 (by decide) lk35 (fun _ h9 => h9) rfl dX2_evaluate_43 ?_
      refine lv_iload_n hx hb dX2_evaluate_46 rfl (lv_at hl 2 rfl) ?_
      obtain ⟨v1, iv1, ev1, h⟩ := rd_some h
      refine kAld hx hb hKK hP 7 rfl iv1 ev1 dX2_evaluate_47 ?_
      refine lv_icmp_ge (tgt := 79) hx hb dX2_evaluate_48 (by decide) (fun c2 => ?_) (fun c2 => ?_)
      · have h := ifp h c2
        simp only [Option.some.injEq, Prod.mk.injEq] at h
        obtain ⟨e0, e1, e2⟩ := h
        exact kRetV hx hb hr hlk (by rw [← hw1, ← e0, ← e1, ← e2]; exact hP) hS dX2_evaluate_79
      · have h := ifn h c2
        refine lv_aload_n hx hb dX2_evaluate_51 rfl (lv_at hl 0 rfl) ?_
        refine va_get (D := D) (ci := 2) (v := .ref a_e_arguments) (C := RX2) (T := TX2) (N := 3) hx hb hts hinX2 hown hKK.1 hP 0 rfl rfl 2 (by decide) lk15 (fun _ h9 => h9) rfl dX2_evaluate_52 ?_
        refine lv_iload_n hx hb dX2_evaluate_55 rfl (lv_at hl 3 rfl) ?_
        refine lv_aload_n hx hb dX2_evaluate_56 rfl (lv_at hl 0 rfl) ?_
        refine lv_aload_n hx hb dX2_evaluate_57 rfl (lv_at hl 1 rfl) ?_
        refine lv_iload_n hx hb dX2_evaluate_58 rfl (lv_at hl 2 rfl) ?_
        refine lv_iload_n hx hb dX2_evaluate_59 rfl (lv_at hl 3 rfl) ?_
        obtain ⟨v3, ev3, h⟩ := bn_some h
        have hs4 : va_P D vwCl (W_k cI cM a_k a_k_staticType a_k_dynamicType a_k_target a_k_argumentCounts a_k_temporaryCounts a_k_keys a_k_kinds a_k_values a_k_temporaryKinds a_k_newKinds a_k_newValues k_count k_frozenSet k_staticType k_dynamicType k_target k_argumentCounts k_temporaryCounts k_keys k_kinds k_values k_temporaryKinds k_newKinds k_newValues) _ := hP.sub (ws' := W_k cI cM a_k a_k_staticType a_k_dynamicType a_k_target a_k_argumentCounts a_k_temporaryCounts a_k_keys a_k_kinds a_k_values a_k_temporaryKinds a_k_newKinds a_k_newValues k_count k_frozenSet k_staticType k_dynamicType k_target k_argumentCounts k_temporaryCounts k_keys k_kinds k_values k_temporaryKinds k_newKinds k_newValues) [3, 4, 5, 6, 7, 8, 9, 10, 11, 12, 13, 14] rfl
        refine kV (As := [.int y2, .int y3]) (rest := [.ref a_e, .int y3, .ref a_e_arguments]) SS hKK (qX0_kindOf l D cI cM a_k a_k_staticType a_k_dynamicType a_k_target a_k_argumentCounts a_k_temporaryCounts a_k_keys a_k_kinds a_k_values a_k_temporaryKinds a_k_newKinds a_k_newValues k_count k_frozenSet k_staticType k_dynamicType k_target k_argumentCounts k_temporaryCounts k_keys k_kinds k_values k_temporaryKinds k_newKinds k_newValues y2 y3 v3 ev3) cw38 hs4 0 0 rfl rfl rfl hl.1 rfl (Nat.le_of_ble_eq_true rfl) dX2_evaluate_60 ⟨Nat.zero_le _, Nat.zero_le _⟩ ?_
        refine lv_aload_n hx hb dX2_evaluate_63 rfl (lv_at hl 1 rfl) ?_
        refine lv_iload_n hx hb dX2_evaluate_64 rfl (lv_at hl 2 rfl) ?_
        refine lv_iload_n hx hb dX2_evaluate_65 rfl (lv_at hl 3 rfl) ?_
        obtain ⟨v5, ev5, h⟩ := bn_some h
        refine kV (As := [.int y2, .int y3]) (rest := [.int v3, .ref a_e, .int y3, .ref a_e_arguments]) SS hKK (qX0_valueOf l D cI cM a_k a_k_staticType a_k_dynamicType a_k_target a_k_argumentCounts a_k_temporaryCounts a_k_keys a_k_kinds a_k_values a_k_temporaryKinds a_k_newKinds a_k_newValues k_count k_frozenSet k_staticType k_dynamicType k_target k_argumentCounts k_temporaryCounts k_keys k_kinds k_values k_temporaryKinds k_newKinds k_newValues y2 y3 v5 ev5) cw41 hs4 0 0 rfl rfl rfl hl.1 rfl (Nat.le_of_ble_eq_true rfl) dX2_evaluate_66 ⟨Nat.zero_le _, Nat.zero_le _⟩ ?_
        obtain ⟨v6, g7, ev6, h⟩ := bn2_some h
        refine kVI (As := [.int v3, .int v5]) (rest := [.int y3, .ref a_e_arguments]) (st1 := [.int v6, .int y3, .ref a_e_arguments]) SS hKK (qX2_valueOf l D cI cM a_e a_e_temporaries a_e_arguments e_counter e_temporaries e_arguments v3 v5 v6 g7 ev6) cw44 hP hD hS [0, 1, 2] rfl rfl rfl rfl 0 2 rfl rfl rfl hl.1 rfl (Nat.le_of_ble_eq_true rfl) dX2_evaluate_69 ⟨Nat.zero_le _, Nat.zero_le _⟩ rfl (fun H locs hP hD hS => ?_)
        have hP : va_P D vwCl (W_e_k cI cM a_e a_e_temporaries a_e_arguments a_k a_k_staticType a_k_dynamicType a_k_target a_k_argumentCounts a_k_temporaryCounts a_k_keys a_k_kinds a_k_values a_k_temporaryKinds a_k_newKinds a_k_newValues g7 e_temporaries e_arguments k_count k_frozenSet k_staticType k_dynamicType k_target k_argumentCounts k_temporaryCounts k_keys k_kinds k_values k_temporaryKinds k_newKinds k_newValues) H := hP
        have hD : va_D _ (W_e_k cI cM a_e a_e_temporaries a_e_arguments a_k a_k_staticType a_k_dynamicType a_k_target a_k_argumentCounts a_k_temporaryCounts a_k_keys a_k_kinds a_k_values a_k_temporaryKinds a_k_newKinds a_k_newValues g7 e_temporaries e_arguments k_count k_frozenSet k_staticType k_dynamicType k_target k_argumentCounts k_temporaryCounts k_keys k_kinds k_values k_temporaryKinds k_newKinds k_newValues) := hD
        obtain ⟨g8, ig8, eg8, h⟩ := wr_some h
        refine kAst hx hb hKK hP hD hS 2 rfl ig8 eg8 dX2_evaluate_72 (fun H locs hP hD hS => ?_)
        have hP : va_P D vwCl (W_e_k cI cM a_e a_e_temporaries a_e_arguments a_k a_k_staticType a_k_dynamicType a_k_target a_k_argumentCounts a_k_temporaryCounts a_k_keys a_k_kinds a_k_values a_k_temporaryKinds a_k_newKinds a_k_newValues g7 e_temporaries g8 k_count k_frozenSet k_staticType k_dynamicType k_target k_argumentCounts k_temporaryCounts k_keys k_kinds k_values k_temporaryKinds k_newKinds k_newValues) H := hP
        have hD : va_D _ (W_e_k cI cM a_e a_e_temporaries a_e_arguments a_k a_k_staticType a_k_dynamicType a_k_target a_k_argumentCounts a_k_temporaryCounts a_k_keys a_k_kinds a_k_values a_k_temporaryKinds a_k_newKinds a_k_newValues g7 e_temporaries g8 k_count k_frozenSet k_staticType k_dynamicType k_target k_argumentCounts k_temporaryCounts k_keys k_kinds k_values k_temporaryKinds k_newKinds k_newValues) := hD
        refine lv_iinc (v := y3 + 1) (lv' := [(3, .int (y3 + 1)), (0, .ref a_e), (1, .ref a_k), (2, .int y2)]) hx hb dX2_evaluate_73 hl (k := 3) rfl rfl (by decide) rfl (fun ls hl => ?_)
        refine lv_goto (tgt := 41) hx hb dX2_evaluate_76 (by decide) ?_
        exact ih H locs g7 e_temporaries g8 y2 (y3 + 1) h hP hD hS ls (lv_sub (l' := [(0, .ref a_e), (1, .ref a_k), (2, .int y2), (3, .int (y3 + 1))]) hl [1, 2, 3, 0] rfl)
  have F7 : ∀ (n : Nat) (H : Heap) (locs : List Loc) (e_counter : Int32) (e_temporaries : Nat → Int32) (e_arguments : Nat → Int32) (y2 : Int32) (y3 : Int32), lX2_evaluate_7 k_argumentCounts k_temporaryCounts k_kinds k_values k_temporaryKinds n e_counter e_temporaries e_arguments y2 y3 = some (r_e_counter, r_e_temporaries, r_e_arguments) → va_P D vwCl (W_e_k cI cM a_e a_e_temporaries a_e_arguments a_k a_k_staticType a_k_dynamicType a_k_target a_k_argumentCounts a_k_temporaryCounts a_k_keys a_k_kinds a_k_values a_k_temporaryKinds a_k_newKinds a_k_newValues e_counter e_temporaries e_arguments k_count k_frozenSet k_staticType k_dynamicType k_target k_argumentCounts k_temporaryCounts k_keys k_kinds k_values k_temporaryKinds k_newKinds k_newValues) H → va_D (fun q => q ∈ (w0).map (·.1)) (W_e_k cI cM a_e a_e_temporaries a_e_arguments a_k a_k_staticType a_k_dynamicType a_k_target a_k_argumentCounts a_k_temporaryCounts a_k_keys a_k_kinds a_k_values a_k_temporaryKinds a_k_newKinds a_k_newValues e_counter e_temporaries e_arguments k_count k_frozenSet k_staticType k_dynamicType k_target k_argumentCounts k_temporaryCounts k_keys k_kinds k_values k_temporaryKinds k_newKinds k_newValues) → va_S (fun q => q ∈ (w0).map (·.1)) s.heap H locs → ∀ ls : Array Slot, lv_has ls 4 [(0, .ref a_e), (1, .ref a_k), (2, .int y2), (3, .int y3)] → WI p l e rmX2_evaluate s m av below meth c D w0 w1 none H locs 7 ls [] := by
    intro n
    induction n with
    | zero => intro H locs e_counter e_temporaries e_arguments y2 y3 h; exact no_some h
    | succ n ih =>
      intro H locs e_counter e_temporaries e_arguments y2 y3 h hP hD hS ls hl
      rw [lX2_evaluate_7_s] at h
      refine lv_iload_n hx hb dX2_evaluate_7 rfl (lv_at hl 3 rfl) ?_
      refine lv_aload_n hx hb dX2_evaluate_8 rfl (lv_at hl 1 rfl) ?_
      refine va_get (D := D) (ci := 0) (v := .ref a_k_temporaryCounts) (C := RX0) (T := TX0) (N := 13) hx hb hts hinX0 hown hKK.1 hP 3 rfl rfl 6 (by decide) lk22 (fun _ h9 => h9) rfl dX2_evaluate_9 ?_
      refine lv_iload_n hx hb dX2_evaluate_12 rfl (lv_at hl 2 rfl) ?_
      obtain ⟨v1, iv1, ev1, h⟩ := rd_some h
      refine kAld hx hb hKK hP 8 rfl iv1 ev1 dX2_evaluate_13 ?_
      refine lv_icmp_ge (tgt := 39) hx hb dX2_evaluate_14 (by decide) (fun c2 => ?_) (fun c2 => ?_)
      · have h := ifp h c2
        refine lv_iconst (v := 0) hx hb dX2_evaluate_39 (by decide) ?_
        refine lv_istore_n (lv' := [(3, .int 0), (0, .ref a_e), (1, .ref a_k), (2, .int y2)]) hx hb dX2_evaluate_40 rfl hl (by decide) rfl (fun ls hl => ?_)
        exact F41 5000 H locs e_counter e_temporaries e_arguments y2 0 h hP hD hS ls (lv_sub (l' := [(0, .ref a_e), (1, .ref a_k), (2, .int y2), (3, .int 0)]) hl [1, 2, 3, 0] rfl)
      · have h := ifn h c2
        refine lv_aload_n hx hb dX2_evaluate_17 rfl (lv_at hl 0 rfl) ?_
        refine va_get (D := D) (ci := 2) (v := .ref a_e_temporaries) (C := RX2) (T := TX2) (N := 3) hx hb hts hinX2 hown hKK.1 hP 0 rfl rfl 1 (by decide) lk9 (fun _ h9 => h9) rfl dX2_evaluate_18 ?_
        refine lv_iload_n hx hb dX2_evaluate_21 rfl (lv_at hl 3 rfl) ?_
        refine lv_aload_n hx hb dX2_evaluate_22 rfl (lv_at hl 0 rfl) ?_
        refine lv_aload_n hx hb dX2_evaluate_23 rfl (lv_at hl 1 rfl) ?_
        refine lv_iload_n hx hb dX2_evaluate_24 rfl (lv_at hl 2 rfl) ?_
        refine lv_iload_n hx hb dX2_evaluate_25 rfl (lv_at hl 3 rfl) ?_
        obtain ⟨v3, ev3, h⟩ := bn_some h
        have hs4 : va_P D vwCl (W_k cI cM a_k a_k_staticType a_k_dynamicType a_k_target a_k_argumentCounts a_k_temporaryCounts a_k_keys a_k_kinds a_k_values a_k_temporaryKinds a_k_newKinds a_k_newValues k_count k_frozenSet k_staticType k_dynamicType k_target k_argumentCounts k_temporaryCounts k_keys k_kinds k_values k_temporaryKinds k_newKinds k_newValues) _ := hP.sub (ws' := W_k cI cM a_k a_k_staticType a_k_dynamicType a_k_target a_k_argumentCounts a_k_temporaryCounts a_k_keys a_k_kinds a_k_values a_k_temporaryKinds a_k_newKinds a_k_newValues k_count k_frozenSet k_staticType k_dynamicType k_target k_argumentCounts k_temporaryCounts k_keys k_kinds k_values k_temporaryKinds k_newKinds k_newValues) [3, 4, 5, 6, 7, 8, 9, 10, 11, 12, 13, 14] rfl
        refine kV (As := [.int y2, .int y3]) (rest := [.ref a_e, .int y3, .ref a_e_temporaries]) SS hKK (qX0_temporaryKindOf l D cI cM a_k a_k_staticType a_k_dynamicType a_k_target a_k_argumentCounts a_k_temporaryCounts a_k_keys a_k_kinds a_k_values a_k_temporaryKinds a_k_newKinds a_k_newValues k_count k_frozenSet k_staticType k_dynamicType k_target k_argumentCounts k_temporaryCounts k_keys k_kinds k_values k_temporaryKinds k_newKinds k_newValues y2 y3 v3 ev3) cw27 hs4 0 0 rfl rfl rfl hl.1 rfl (Nat.le_of_ble_eq_true rfl) dX2_evaluate_26 ⟨Nat.zero_le _, Nat.zero_le _⟩ ?_
        obtain ⟨v5, g6, ev5, h⟩ := bn2_some h
        refine kVI (As := [.int v3]) (rest := [.int y3, .ref a_e_temporaries]) (st1 := [.int v5, .int y3, .ref a_e_temporaries]) SS hKK (qX2_readOrTick l D cI cM a_e a_e_temporaries a_e_arguments e_counter e_temporaries e_arguments v3 v5 g6 ev5) cw31 hP hD hS [0, 1, 2] rfl rfl rfl rfl 0 2 rfl rfl rfl hl.1 rfl (Nat.le_of_ble_eq_true rfl) dX2_evaluate_29 ⟨Nat.zero_le _, Nat.zero_le _⟩ rfl (fun H locs hP hD hS => ?_)
        have hP : va_P D vwCl (W_e_k cI cM a_e a_e_temporaries a_e_arguments a_k a_k_staticType a_k_dynamicType a_k_target a_k_argumentCounts a_k_temporaryCounts a_k_keys a_k_kinds a_k_values a_k_temporaryKinds a_k_newKinds a_k_newValues g6 e_temporaries e_arguments k_count k_frozenSet k_staticType k_dynamicType k_target k_argumentCounts k_temporaryCounts k_keys k_kinds k_values k_temporaryKinds k_newKinds k_newValues) H := hP
        have hD : va_D _ (W_e_k cI cM a_e a_e_temporaries a_e_arguments a_k a_k_staticType a_k_dynamicType a_k_target a_k_argumentCounts a_k_temporaryCounts a_k_keys a_k_kinds a_k_values a_k_temporaryKinds a_k_newKinds a_k_newValues g6 e_temporaries e_arguments k_count k_frozenSet k_staticType k_dynamicType k_target k_argumentCounts k_temporaryCounts k_keys k_kinds k_values k_temporaryKinds k_newKinds k_newValues) := hD
        obtain ⟨g7, ig7, eg7, h⟩ := wr_some h
        refine kAst hx hb hKK hP hD hS 1 rfl ig7 eg7 dX2_evaluate_32 (fun H locs hP hD hS => ?_)
        have hP : va_P D vwCl (W_e_k cI cM a_e a_e_temporaries a_e_arguments a_k a_k_staticType a_k_dynamicType a_k_target a_k_argumentCounts a_k_temporaryCounts a_k_keys a_k_kinds a_k_values a_k_temporaryKinds a_k_newKinds a_k_newValues g6 g7 e_arguments k_count k_frozenSet k_staticType k_dynamicType k_target k_argumentCounts k_temporaryCounts k_keys k_kinds k_values k_temporaryKinds k_newKinds k_newValues) H := hP
        have hD : va_D _ (W_e_k cI cM a_e a_e_temporaries a_e_arguments a_k a_k_staticType a_k_dynamicType a_k_target a_k_argumentCounts a_k_temporaryCounts a_k_keys a_k_kinds a_k_values a_k_temporaryKinds a_k_newKinds a_k_newValues g6 g7 e_arguments k_count k_frozenSet k_staticType k_dynamicType k_target k_argumentCounts k_temporaryCounts k_keys k_kinds k_values k_temporaryKinds k_newKinds k_newValues) := hD
        refine lv_iinc (v := y3 + 1) (lv' := [(3, .int (y3 + 1)), (0, .ref a_e), (1, .ref a_k), (2, .int y2)]) hx hb dX2_evaluate_33 hl (k := 3) rfl rfl (by decide) rfl (fun ls hl => ?_)
        refine lv_goto (tgt := 7) hx hb dX2_evaluate_36 (by decide) ?_
        exact ih H locs g6 g7 e_arguments y2 (y3 + 1) h hP hD hS ls (lv_sub (l' := [(0, .ref a_e), (1, .ref a_k), (2, .int y2), (3, .int (y3 + 1))]) hl [1, 2, 3, 0] rfl)
  unfold fX2_evaluate at h
  refine lv_aload_n hx hb dX2_evaluate_0 rfl (lv_at hl 0 rfl) ?_
  refine lv_iconst (v := 0) hx hb dX2_evaluate_1 (by decide) ?_
  refine va_put (D := D) (ci := 2) (v := .int 0) (ty := .int) (C := RX2) (T := TX2) (N := 3) hx hb hts hinX2 tyX2 tyX2_ok nmX2 hown hKK.1 hP hD hS 0 rfl rfl 0 (by decide) lk18 (fun _ h9 => h9) rfl (by decide +kernel) rfl rfl (Nat.le_of_ble_eq_true rfl) dX2_evaluate_2 (fun H locs hP hD hS => ?_)
  have hP : va_P D vwCl (W_e_k cI cM a_e a_e_temporaries a_e_arguments a_k a_k_staticType a_k_dynamicType a_k_target a_k_argumentCounts a_k_temporaryCounts a_k_keys a_k_kinds a_k_values a_k_temporaryKinds a_k_newKinds a_k_newValues 0 e_temporaries e_arguments k_count k_frozenSet k_staticType k_dynamicType k_target k_argumentCounts k_temporaryCounts k_keys k_kinds k_values k_temporaryKinds k_newKinds k_newValues) H := hP
  have hD : va_D _ (W_e_k cI cM a_e a_e_temporaries a_e_arguments a_k a_k_staticType a_k_dynamicType a_k_target a_k_argumentCounts a_k_temporaryCounts a_k_keys a_k_kinds a_k_values a_k_temporaryKinds a_k_newKinds a_k_newValues 0 e_temporaries e_arguments k_count k_frozenSet k_staticType k_dynamicType k_target k_argumentCounts k_temporaryCounts k_keys k_kinds k_values k_temporaryKinds k_newKinds k_newValues) := hD
  refine lv_iconst (v := 0) hx hb dX2_evaluate_5 (by decide) ?_
  refine lv_istore_n (lv' := [(3, .int 0), (0, .ref a_e), (1, .ref a_k), (2, .int x2)]) hx hb dX2_evaluate_6 rfl hl (by decide) rfl (fun ls hl => ?_)
  exact F7 5000 H locs 0 e_temporaries e_arguments x2 0 h hP hD hS ls (lv_sub (l' := [(0, .ref a_e), (1, .ref a_k), (2, .int x2), (3, .int 0)]) hl [1, 2, 3, 0] rfl)
set_option maxHeartbeats 8000000 in
set_option maxRecDepth 100000 in
theorem qX2_received (l : Launch) (D : va_G) (cI cM : ClassId) (a_e a_e_temporaries a_e_arguments a_k a_k_staticType a_k_dynamicType a_k_target a_k_argumentCounts a_k_temporaryCounts a_k_keys a_k_kinds a_k_values a_k_temporaryKinds a_k_newKinds a_k_newValues : Nat) (e_counter : Int32) (e_temporaries : Nat → Int32) (e_arguments : Nat → Int32) (k_count : Int32) (k_frozenSet : Int32) (k_staticType : Nat → Int32) (k_dynamicType : Nat → Int32) (k_target : Nat → Int32) (k_argumentCounts : Nat → Int32) (k_temporaryCounts : Nat → Int32) (k_keys : Nat → Int32) (k_kinds : Nat → Int32) (k_values : Nat → Int32) (k_temporaryKinds : Nat → Int32) (k_newKinds : Nat → Int32) (k_newValues : Nat → Int32) (x2 : Int32) (x3 : Int32) (x4 : Int32) (r : Int32) (h : fX2_received e_arguments k_argumentCounts k_keys x2 x3 x4 = some r) : PM l yX2_received wsX2_received rmX2_received D cI cM [.ref a_e, .ref a_k, .int x2, .int x3, .int x4] (W_e_k cI cM a_e a_e_temporaries a_e_arguments a_k a_k_staticType a_k_dynamicType a_k_target a_k_argumentCounts a_k_temporaryCounts a_k_keys a_k_kinds a_k_values a_k_temporaryKinds a_k_newKinds a_k_newValues e_counter e_temporaries e_arguments k_count k_frozenSet k_staticType k_dynamicType k_target k_argumentCounts k_temporaryCounts k_keys k_kinds k_values k_temporaryKinds k_newKinds k_newValues) r := by
  refine PM.of (cc := cX2_received) (maxL := 6) (ret := (some .int)) (by decide) rfl (Nat.le_of_ble_eq_true rfl) ?_
  intro p e s m below meth c ls hx hb hr hml hown hts hlk hP hKK hl
  have hown : s.vm.findClass RX2 = some m.cls := hown
  have hl : lv_has ls 6 [(0, .ref a_e), (1, .ref a_k), (2, .int x2), (3, .int x3), (4, .int x4)] := hl
  generalize hav : ([.ref a_e, .ref a_k, .int x2, .int x3, .int x4] : List Value) = av at hts ⊢
  have SS : CallFix p m c cX2_received 6 s av.toArray wsX2_received RX2 := ⟨hx, hb, hml, hown, hts⟩
  have hinX0 : ∀ w ∈ u_ws RX0 TX0 13, w ∈ wsX2_received := by decide +kernel
  have hinX2 : ∀ w ∈ u_ws RX2 TX2 3, w ∈ wsX2_received := by decide +kernel
  have lk15 := hts (.fieldLink RX2 15 "SignatureChanger$Evaluation" "arguments" "[I") (List.mem_of_getElem? (i := 2) rfl)
  have lk35 := hts (.fieldLink RX2 35 "SignatureChanger$Calls" "argumentCounts" "[I") (List.mem_of_getElem? (i := 1) rfl)
  have cw63 : CallW rmX2_received s av.toArray RX2 RX0 63 yX0_keyOf cX0_keyOf 3 (some .int) wsX0_keyOf rmX0_keyOf 0 0 2 := cwV 2 hts gX2_received_X0_keyOf rfl rfl rfl (by decide +kernel) ⟨Nat.le_of_ble_eq_true rfl, Nat.le_of_ble_eq_true rfl⟩
  have F3 : ∀ (n : Nat) (y2 : Int32) (y3 : Int32) (y4 : Int32) (y5 : Int32), lX2_received_3 e_arguments k_argumentCounts k_keys n y2 y3 y4 y5 = some r → ∀ ls : Array Slot, lv_has ls 6 [(0, .ref a_e), (1, .ref a_k), (2, .int y2), (3, .int y3), (4, .int y4), (5, .int y5)] → WP p l e rmX2_received s m av below meth c r 3 ls [] := by
    intro n
    induction n with
    | zero => intro y2 y3 y4 y5 h; exact no_some h
    | succ n ih =>
      intro y2 y3 y4 y5 h ls hl
      rw [lX2_received_3_s] at h
      refine lv_iload hx hb dX2_received_3 (lv_at hl 5 rfl) ?_
      refine lv_aload_n hx hb dX2_received_5 rfl (lv_at hl 1 rfl) ?_
      refine va_get (D := D) (ci := 0) (v := .ref a_k_argumentCounts) (C := RX0) (T := TX0) (N := 13) hx hb hts hinX0 hown hKK.1 hP 3 rfl rfl 5 (by decide) lk35 (fun _ h9 => h9) rfl dX2_received_6 ?_
      refine lv_iload_n hx hb dX2_received_9 rfl (lv_at hl 2 rfl) ?_
      obtain ⟨v1, iv1, ev1, h⟩ := rd_some h
      refine kAld hx hb hKK hP 7 rfl iv1 ev1 dX2_received_10 ?_
      refine lv_icmp_ge (tgt := 39) hx hb dX2_received_11 (by decide) (fun c2 => ?_) (fun c2 => ?_)
      · have h := ifp h c2
        refine lv_iload hx hb dX2_received_39 (lv_at hl 4 rfl) ?_
        exact kRet hx hb hr hlk (Option.some.inj h) dX2_received_41
      · have h := ifn h c2
        refine lv_aload_n hx hb dX2_received_14 rfl (lv_at hl 1 rfl) ?_
        refine lv_iload_n hx hb dX2_received_15 rfl (lv_at hl 2 rfl) ?_
        refine lv_iload hx hb dX2_received_16 (lv_at hl 5 rfl) ?_
        obtain ⟨v3, ev3, h⟩ := bn_some h
        have hs4 : va_P D vwCl (W_k cI cM a_k a_k_staticType a_k_dynamicType a_k_target a_k_argumentCounts a_k_temporaryCounts a_k_keys a_k_kinds a_k_values a_k_temporaryKinds a_k_newKinds a_k_newValues k_count k_frozenSet k_staticType k_dynamicType k_target k_argumentCounts k_temporaryCounts k_keys k_kinds k_values k_temporaryKinds k_newKinds k_newValues) _ := hP.sub (ws' := W_k cI cM a_k a_k_staticType a_k_dynamicType a_k_target a_k_argumentCounts a_k_temporaryCounts a_k_keys a_k_kinds a_k_values a_k_temporaryKinds a_k_newKinds a_k_newValues k_count k_frozenSet k_staticType k_dynamicType k_target k_argumentCounts k_temporaryCounts k_keys k_kinds k_values k_temporaryKinds k_newKinds k_newValues) [3, 4, 5, 6, 7, 8, 9, 10, 11, 12, 13, 14] rfl
        refine kV (As := [.int y2, .int y5]) (rest := []) SS hKK (qX0_keyOf l D cI cM a_k a_k_staticType a_k_dynamicType a_k_target a_k_argumentCounts a_k_temporaryCounts a_k_keys a_k_kinds a_k_values a_k_temporaryKinds a_k_newKinds a_k_newValues k_count k_frozenSet k_staticType k_dynamicType k_target k_argumentCounts k_temporaryCounts k_keys k_kinds k_values k_temporaryKinds k_newKinds k_newValues y2 y5 v3 ev3) cw63 hs4 0 0 rfl rfl rfl hl.1 rfl (Nat.le_of_ble_eq_true rfl) dX2_received_18 ⟨Nat.zero_le _, Nat.zero_le _⟩ ?_
        refine lv_iload_n hx hb dX2_received_21 rfl (lv_at hl 3 rfl) ?_
        refine lv_icmp_ne (tgt := 33) hx hb dX2_received_22 (by decide) (fun c5 => ?_) (fun c5 => ?_)
        · have h := ifn h c5
          refine lv_iinc (v := y5 + 1) (lv' := [(5, .int (y5 + 1)), (0, .ref a_e), (1, .ref a_k), (2, .int y2), (3, .int y3), (4, .int y4)]) hx hb dX2_received_33 hl (k := 5) rfl rfl (by decide) rfl (fun ls hl => ?_)
          refine lv_goto (tgt := 3) hx hb dX2_received_36 (by decide) ?_
          exact ih y2 y3 y4 (y5 + 1) h ls (lv_sub (l' := [(0, .ref a_e), (1, .ref a_k), (2, .int y2), (3, .int y3), (4, .int y4), (5, .int (y5 + 1))]) hl [1, 2, 3, 4, 5, 0] rfl)
        · have h := ifp h c5
          refine lv_aload_n hx hb dX2_received_25 rfl (lv_at hl 0 rfl) ?_
          refine va_get (D := D) (ci := 2) (v := .ref a_e_arguments) (C := RX2) (T := TX2) (N := 3) hx hb hts hinX2 hown hKK.1 hP 0 rfl rfl 2 (by decide) lk15 (fun _ h9 => h9) rfl dX2_received_26 ?_
          refine lv_iload hx hb dX2_received_29 (lv_at hl 5 rfl) ?_
          obtain ⟨v6, iv6, ev6, h⟩ := rd_some h
          refine kAld hx hb hKK hP 2 rfl iv6 ev6 dX2_received_31 ?_
          exact kRet hx hb hr hlk (Option.some.inj h) dX2_received_32
  unfold fX2_received at h
  refine lv_iconst (v := 0) hx hb dX2_received_0 (by decide) ?_
  refine lv_istore (lv' := [(5, .int 0), (0, .ref a_e), (1, .ref a_k), (2, .int x2), (3, .int x3), (4, .int x4)]) hx hb dX2_received_1 hl (by decide) rfl (fun ls hl => ?_)
  exact F3 5000 x2 x3 x4 0 h ls (lv_sub (l' := [(0, .ref a_e), (1, .ref a_k), (2, .int x2), (3, .int x3), (4, .int x4), (5, .int 0)]) hl [1, 2, 3, 4, 5, 0] rfl)
set_option maxHeartbeats 8000000 in
set_option maxRecDepth 100000 in
theorem qX2_resultOf (l : Launch) (D : va_G) (cI cM : ClassId) (a_e a_e_temporaries a_e_arguments a_m a_m_type a_m_name a_m_arity a_m_keys a_m_defaults a_k a_k_staticType a_k_dynamicType a_k_target a_k_argumentCounts a_k_temporaryCounts a_k_keys a_k_kinds a_k_values a_k_temporaryKinds a_k_newKinds a_k_newValues : Nat) (e_counter : Int32) (e_temporaries : Nat → Int32) (e_arguments : Nat → Int32) (m_count : Int32) (m_type : Nat → Int32) (m_name : Nat → Int32) (m_arity : Nat → Int32) (m_keys : Nat → Int32) (m_defaults : Nat → Int32) (k_count : Int32) (k_frozenSet : Int32) (k_staticType : Nat → Int32) (k_dynamicType : Nat → Int32) (k_target : Nat → Int32) (k_argumentCounts : Nat → Int32) (k_temporaryCounts : Nat → Int32) (k_keys : Nat → Int32) (k_kinds : Nat → Int32) (k_values : Nat → Int32) (k_temporaryKinds : Nat → Int32) (k_newKinds : Nat → Int32) (k_newValues : Nat → Int32) (x2 : Int32) (x4 : Int32) (r : Int32) (h : fX2_resultOf e_arguments m_type m_arity m_keys m_defaults k_argumentCounts k_keys x2 x4 = some r) : PM l yX2_resultOf wsX2_resultOf rmX2_resultOf D cI cM [.ref a_e, .ref a_m, .int x2, .ref a_k, .int x4] (W_e_m_k cI cM a_e a_e_temporaries a_e_arguments a_m a_m_type a_m_name a_m_arity a_m_keys a_m_defaults a_k a_k_staticType a_k_dynamicType a_k_target a_k_argumentCounts a_k_temporaryCounts a_k_keys a_k_kinds a_k_values a_k_temporaryKinds a_k_newKinds a_k_newValues e_counter e_temporaries e_arguments m_count m_type m_name m_arity m_keys m_defaults k_count k_frozenSet k_staticType k_dynamicType k_target k_argumentCounts k_temporaryCounts k_keys k_kinds k_values k_temporaryKinds k_newKinds k_newValues) r := by
  refine PM.of (cc := cX2_resultOf) (maxL := 8) (ret := (some .int)) (by decide) rfl (Nat.le_of_ble_eq_true rfl) ?_
  intro p e s m below meth c ls hx hb hr hml hown hts hlk hP hKK hl
  have hown : s.vm.findClass RX2 = some m.cls := hown
  have hl : lv_has ls 8 [(0, .ref a_e), (1, .ref a_m), (2, .int x2), (3, .ref a_k), (4, .int x4)] := hl
  generalize hav : ([.ref a_e, .ref a_m, .int x2, .ref a_k, .int x4] : List Value) = av at hts ⊢
  have SS : CallFix p m c cX2_resultOf 8 s av.toArray wsX2_resultOf RX2 := ⟨hx, hb, hml, hown, hts⟩
  have hinX5 : ∀ w ∈ u_ws RX5 TX5 6, w ∈ wsX2_resultOf := by decide +kernel
  have lk45 := hts (.fieldLink RX2 45 "SignatureChanger$Methods" "type" "[I") (List.mem_of_getElem? (i := 1) rfl)
  have lk50 := hts (.fieldLink RX2 50 "SignatureChanger$Methods" "arity" "[I") (List.mem_of_getElem? (i := 2) rfl)
  have cw53 : CallW rmX2_resultOf s av.toArray RX2 RX5 53 yX5_keyOf cX5_keyOf 3 (some .int) wsX5_keyOf rmX5_keyOf 0 0 2 := cwV 2 hts gX2_resultOf_X5_keyOf rfl rfl rfl (by decide +kernel) ⟨Nat.le_of_ble_eq_true rfl, Nat.le_of_ble_eq_true rfl⟩
  have cw56 : CallW rmX2_resultOf s av.toArray RX2 RX5 56 yX5_defaultOf cX5_defaultOf 3 (some .int) wsX5_defaultOf rmX5_defaultOf 0 0 2 := cwV 2 hts gX2_resultOf_X5_defaultOf rfl rfl rfl (by decide +kernel) ⟨Nat.le_of_ble_eq_true rfl, Nat.le_of_ble_eq_true rfl⟩
  have cw59 : CallW rmX2_resultOf s av.toArray RX2 RX2 59 yX2_received cX2_received 6 (some .int) wsX2_received rmX2_received 0 0 4 := cwV 4 hts gX2_resultOf_X2_received rfl rfl rfl (by decide +kernel) ⟨Nat.le_of_ble_eq_true rfl, Nat.le_of_ble_eq_true rfl⟩
  have F15 : ∀ (n : Nat) (y2 : Int32) (y4 : Int32) (y5 : Int32) (y6 : Int32), lX2_resultOf_15 e_arguments m_type m_arity m_keys m_defaults k_argumentCounts k_keys n y2 y4 y5 y6 = some r → ∀ ls : Array Slot, lv_has ls 8 [(0, .ref a_e), (1, .ref a_m), (2, .int y2), (3, .ref a_k), (4, .int y4), (5, .int y5), (6, .int y6)] → WP p l e rmX2_resultOf s m av below meth c r 15 ls [] := by
    intro n
    induction n with
    | zero => intro y2 y4 y5 y6 h; exact no_some h
    | succ n ih =>
      intro y2 y4 y5 y6 h ls hl
      rw [lX2_resultOf_15_s] at h
      refine lv_iload hx hb dX2_resultOf_15 (lv_at hl 6 rfl) ?_
      refine lv_aload_n hx hb dX2_resultOf_17 rfl (lv_at hl 1 rfl) ?_
      refine va_get (D := D) (ci := 5) (v := .ref a_m_arity) (C := RX5) (T := TX5) (N := 6) hx hb hts hinX5 hown hKK.1 hP 3 rfl rfl 3 (by decide) lk50 (fun _ h9 => h9) rfl dX2_resultOf_18 ?_
      refine lv_iload_n hx hb dX2_resultOf_21 rfl (lv_at hl 2 rfl) ?_
      obtain ⟨v1, iv1, ev1, h⟩ := rd_some h
      refine kAld hx hb hKK hP 6 rfl iv1 ev1 dX2_resultOf_22 ?_
      refine lv_icmp_ge (tgt := 67) hx hb dX2_resultOf_23 (by decide) (fun c2 => ?_) (fun c2 => ?_)
      · have h := ifp h c2
        refine lv_iload hx hb dX2_resultOf_67 (lv_at hl 5 rfl) ?_
        exact kRet hx hb hr hlk (Option.some.inj h) dX2_resultOf_69
      · have h := ifn h c2
        refine lv_aload_n hx hb dX2_resultOf_26 rfl (lv_at hl 1 rfl) ?_
        refine lv_iload_n hx hb dX2_resultOf_27 rfl (lv_at hl 2 rfl) ?_
        refine lv_iload hx hb dX2_resultOf_28 (lv_at hl 6 rfl) ?_
        obtain ⟨v3, ev3, h⟩ := bn_some h
        have hs4 : va_P D vwCl (W_m cI cM a_m a_m_type a_m_name a_m_arity a_m_keys a_m_defaults m_count m_type m_name m_arity m_keys m_defaults) _ := hP.sub (ws' := W_m cI cM a_m a_m_type a_m_name a_m_arity a_m_keys a_m_defaults m_count m_type m_name m_arity m_keys m_defaults) [3, 4, 5, 6, 7, 8] rfl
        refine kV (As := [.int y2, .int y6]) (rest := []) SS hKK (qX5_keyOf l D cI cM a_m a_m_type a_m_name a_m_arity a_m_keys a_m_defaults m_count m_type m_name m_arity m_keys m_defaults y2 y6 v3 ev3) cw53 hs4 0 5 rfl rfl rfl hl.1 rfl (Nat.le_of_ble_eq_true rfl) dX2_resultOf_30 ⟨Nat.zero_le _, Nat.zero_le _⟩ ?_
        refine lv_istore (lv' := [(7, .int v3), (0, .ref a_e), (1, .ref a_m), (2, .int y2), (3, .ref a_k), (4, .int y4), (5, .int y5), (6, .int y6)]) hx hb dX2_resultOf_33 hl (by decide) rfl (fun ls hl => ?_)
        refine lv_iload hx hb dX2_resultOf_35 (lv_at hl 6 rfl) ?_
        refine lv_iload hx hb dX2_resultOf_37 (lv_at hl 0 rfl) ?_
        refine lv_iconst (v := 1) hx hb dX2_resultOf_39 (by decide) ?_
        refine lv_iadd hx hb dX2_resultOf_40 ?_
        refine lv_aload_n hx hb dX2_resultOf_41 rfl (lv_at hl 1 rfl) ?_
        refine lv_aload_n hx hb dX2_resultOf_42 rfl (lv_at hl 4 rfl) ?_
        refine lv_iload hx hb dX2_resultOf_43 (lv_at hl 5 rfl) ?_
        refine lv_iload hx hb dX2_resultOf_45 (lv_at hl 0 rfl) ?_
        refine lv_aload_n hx hb dX2_resultOf_47 rfl (lv_at hl 2 rfl) ?_
        refine lv_iload_n hx hb dX2_resultOf_48 rfl (lv_at hl 3 rfl) ?_
        refine lv_iload hx hb dX2_resultOf_49 (lv_at hl 7 rfl) ?_
        obtain ⟨v5, ev5, h⟩ := bn_some h
        refine kV (As := [.int y2, .int y6]) (rest := [.int v3, .int y4, .ref a_k, .ref a_e, .int (v3 + 1), .int y5]) SS hKK (qX5_defaultOf l D cI cM a_m a_m_type a_m_name a_m_arity a_m_keys a_m_defaults m_count m_type m_name m_arity m_keys m_defaults y2 y6 v5 ev5) cw56 hs4 0 5 rfl rfl rfl hl.1 rfl (Nat.le_of_ble_eq_true rfl) dX2_resultOf_51 ⟨Nat.zero_le _, Nat.zero_le _⟩ ?_
        obtain ⟨v6, ev6, h⟩ := bn_some h
        have hs7 : va_P D vwCl (W_e_k cI cM a_e a_e_temporaries a_e_arguments a_k a_k_staticType a_k_dynamicType a_k_target a_k_argumentCounts a_k_temporaryCounts a_k_keys a_k_kinds a_k_values a_k_temporaryKinds a_k_newKinds a_k_newValues e_counter e_temporaries e_arguments k_count k_frozenSet k_staticType k_dynamicType k_target k_argumentCounts k_temporaryCounts k_keys k_kinds k_values k_temporaryKinds k_newKinds k_newValues) _ := hP.sub (ws' := W_e_k cI cM a_e a_e_temporaries a_e_arguments a_k a_k_staticType a_k_dynamicType a_k_target a_k_argumentCounts a_k_temporaryCounts a_k_keys a_k_kinds a_k_values a_k_temporaryKinds a_k_newKinds a_k_newValues e_counter e_temporaries e_arguments k_count k_frozenSet k_staticType k_dynamicType k_target k_argumentCounts k_temporaryCounts k_keys k_kinds k_values k_temporaryKinds k_newKinds k_newValues) [0, 1, 2, 9, 10, 11, 12, 13, 14, 15, 16, 17, 18, 19, 20] rfl
        refine kV (As := [.ref a_k, .int y4, .int v3, .int v5]) (rest := [.int (v3 + 1), .int y5]) SS hKK (qX2_received l D cI cM a_e a_e_temporaries a_e_arguments a_k a_k_staticType a_k_dynamicType a_k_target a_k_argumentCounts a_k_temporaryCounts a_k_keys a_k_kinds a_k_values a_k_temporaryKinds a_k_newKinds a_k_newValues e_counter e_temporaries e_arguments k_count k_frozenSet k_staticType k_dynamicType k_target k_argumentCounts k_temporaryCounts k_keys k_kinds k_values k_temporaryKinds k_newKinds k_newValues y4 v3 v5 v6 ev6) cw59 hs7 0 2 rfl rfl rfl hl.1 rfl (Nat.le_of_ble_eq_true rfl) dX2_resultOf_54 ⟨Nat.zero_le _, Nat.zero_le _⟩ ?_
        refine lv_imul hx hb dX2_resultOf_57 ?_
        refine lv_iadd hx hb dX2_resultOf_58 ?_
        refine lv_istore (lv' := [(5, .int (y5 + ((v3 + 1) * v6))), (7, .int v3), (0, .ref a_e), (1, .ref a_m), (2, .int y2), (3, .ref a_k), (4, .int y4), (6, .int y6)]) hx hb dX2_resultOf_59 hl (by decide) rfl (fun ls hl => ?_)
        refine lv_iinc (v := y6 + 1) (lv' := [(6, .int (y6 + 1)), (5, .int (y5 + ((v3 + 1) * v6))), (7, .int v3), (0, .ref a_e), (1, .ref a_m), (2, .int y2), (3, .ref a_k), (4, .int y4)]) hx hb dX2_resultOf_61 hl (k := 7) rfl rfl (by decide) rfl (fun ls hl => ?_)
        refine lv_goto (tgt := 15) hx hb dX2_resultOf_64 (by decide) ?_
        exact ih y2 y4 (y5 + ((v3 + 1) * v6)) (y6 + 1) h ls (lv_sub (l' := [(0, .ref a_e), (1, .ref a_m), (2, .int y2), (3, .ref a_k), (4, .int y4), (5, .int (y5 + ((v3 + 1) * v6))), (6, .int (y6 + 1))]) hl [3, 4, 5, 6, 7, 1, 0] rfl)
  unfold fX2_resultOf at h
  refine lv_sipush (v := 1000) hx hb dX2_resultOf_0 (by decide) ?_
  refine lv_aload_n hx hb dX2_resultOf_3 rfl (lv_at hl 1 rfl) ?_
  refine va_get (D := D) (ci := 5) (v := .ref a_m_type) (C := RX5) (T := TX5) (N := 6) hx hb hts hinX5 hown hKK.1 hP 3 rfl rfl 1 (by decide) lk45 (fun _ h9 => h9) rfl dX2_resultOf_4 ?_
  refine lv_iload_n hx hb dX2_resultOf_7 rfl (lv_at hl 2 rfl) ?_
  obtain ⟨v1, iv1, ev1, h⟩ := rd_some h
  refine kAld hx hb hKK hP 4 rfl iv1 ev1 dX2_resultOf_8 ?_
  refine lv_imul hx hb dX2_resultOf_9 ?_
  refine lv_istore (lv' := [(5, .int (1000 * v1)), (0, .ref a_e), (1, .ref a_m), (2, .int x2), (3, .ref a_k), (4, .int x4)]) hx hb dX2_resultOf_10 hl (by decide) rfl (fun ls hl => ?_)
  refine lv_iconst (v := 0) hx hb dX2_resultOf_12 (by decide) ?_
  refine lv_istore (lv' := [(6, .int 0), (5, .int (1000 * v1)), (0, .ref a_e), (1, .ref a_m), (2, .int x2), (3, .ref a_k), (4, .int x4)]) hx hb dX2_resultOf_13 hl (by decide) rfl (fun ls hl => ?_)
  exact F15 5000 x2 x4 (1000 * v1) 0 h ls (lv_sub (l' := [(0, .ref a_e), (1, .ref a_m), (2, .int x2), (3, .ref a_k), (4, .int x4), (5, .int (1000 * v1)), (6, .int 0)]) hl [2, 3, 4, 5, 6, 1, 0] rfl)
set_option maxHeartbeats 8000000 in
set_option maxRecDepth 100000 in
theorem qX7_copyFrom (l : Launch) (D : va_G) (cI cM : ClassId) (a_t a_t_supertypes a_t2 a_t2_supertypes : Nat) (t_count : Int32) (t_interfaceSet : Int32) (t_supertypes : Nat → Int32) (t2_count : Int32) (t2_interfaceSet : Int32) (t2_supertypes : Nat → Int32) (r_t_count : Int32) (r_t_interfaceSet : Int32) (r_t_supertypes : Nat → Int32) (h : fX7_copyFrom t_count t_interfaceSet t_supertypes t2_count t2_interfaceSet t2_supertypes = some (r_t_count, r_t_interfaceSet, r_t_supertypes)) : IM l yX7_copyFrom wsX7_copyFrom rmX7_copyFrom D cI cM [.ref a_t, .ref a_t2] (W_t_t2 cI cM a_t a_t_supertypes a_t2 a_t2_supertypes t_count t_interfaceSet t_supertypes t2_count t2_interfaceSet t2_supertypes) (W_t_t2 cI cM a_t a_t_supertypes a_t2 a_t2_supertypes r_t_count r_t_interfaceSet r_t_supertypes t2_count t2_interfaceSet t2_supertypes) none := by
  refine IM.of (cc := cX7_copyFrom) (maxL := 2) (ret := none) (by decide) rfl (Nat.le_of_ble_eq_true rfl) ?_
  intro p e s m below meth c ls hx hb hr hml hown hts hlk hKK hP hD hS hl
  have hown : s.vm.findClass RX7 = some m.cls := hown
  have hl : lv_has ls 2 [(0, .ref a_t), (1, .ref a_t2)] := hl
  generalize hav : ([.ref a_t, .ref a_t2] : List Value) = av at hts ⊢
  generalize hw1 : W_t_t2 cI cM a_t a_t_supertypes a_t2 a_t2_supertypes r_t_count r_t_interfaceSet r_t_supertypes t2_count t2_interfaceSet t2_supertypes = w1
  generalize hw0 : W_t_t2 cI cM a_t a_t_supertypes a_t2 a_t2_supertypes t_count t_interfaceSet t_supertypes t2_count t2_interfaceSet t2_supertypes = w0 at hD hS ⊢
  have hP : va_P D vwCl (W_t_t2 cI cM a_t a_t_supertypes a_t2 a_t2_supertypes t_count t_interfaceSet t_supertypes t2_count t2_interfaceSet t2_supertypes) s.heap := hP
  have hD : va_D (fun q => q ∈ w0.map (·.1)) (W_t_t2 cI cM a_t a_t_supertypes a_t2 a_t2_supertypes t_count t_interfaceSet t_supertypes t2_count t2_interfaceSet t2_supertypes) := by rw [hw0]; exact hD
  have SS : CallFix p m c cX7_copyFrom 2 s av.toArray wsX7_copyFrom RX7 := ⟨hx, hb, hml, hown, hts⟩
  have hinX7 : ∀ w ∈ u_ws RX7 TX7 3, w ∈ wsX7_copyFrom := by decide +kernel
  have lk9 := hts (.fieldLink RX7 9 "SignatureChanger$Types" "supertypes" "[I") (List.mem_of_getElem? (i := 3) rfl)
  have lk15 := hts (.fieldLink RX7 15 "SignatureChanger$Types" "count" "I") (List.mem_of_getElem? (i := 1) rfl)
  have lk23 := hts (.fieldLink RX7 23 "SignatureChanger$Types" "interfaceSet" "I") (List.mem_of_getElem? (i := 2) rfl)
  have cw37 : va_CN rmX7_copyFrom s av.toArray RX7 37 yX8_copyRow RX8 cX8_copyRow 2 none wsX8_copyRow rmX8_copyRow 0 0 2 ∧ (Cond.static yX8_copyRow).before av.toArray s = true ∧ True := ⟨va_cnB 2 hts gX7_copyFrom_X8_copyRow_n37 rfl rfl rfl (hKK.2.at 11 rfl) (hts (.initialized RX8) (List.mem_of_getElem? (i := 5) rfl)) (by decide +kernel) ⟨Nat.le_of_ble_eq_true rfl, Nat.le_of_ble_eq_true rfl⟩, hts (.static yX8_copyRow) (List.mem_of_getElem? (i := 4) rfl), trivial⟩
  unfold fX7_copyFrom at h
  refine lv_aload_n hx hb dX7_copyFrom_0 rfl (lv_at hl 0 rfl) ?_
  refine lv_aload_n hx hb dX7_copyFrom_1 rfl (lv_at hl 1 rfl) ?_
  refine va_get (D := D) (ci := 7) (v := .int t2_count) (C := RX7) (T := TX7) (N := 3) hx hb hts hinX7 hown hKK.1 hP 2 rfl rfl 0 (by decide) lk15 (fun _ h9 => h9) rfl dX7_copyFrom_2 ?_
  refine va_put (D := D) (ci := 7) (v := .int t2_count) (ty := .int) (C := RX7) (T := TX7) (N := 3) hx hb hts hinX7 tyX7 tyX7_ok nmX7 hown hKK.1 hP hD hS 0 rfl rfl 0 (by decide) lk15 (fun _ h9 => h9) rfl (by decide +kernel) rfl rfl (Nat.le_of_ble_eq_true rfl) dX7_copyFrom_5 (fun H locs hP hD hS => ?_)
  have hP : va_P D vwCl (W_t_t2 cI cM a_t a_t_supertypes a_t2 a_t2_supertypes t2_count t_interfaceSet t_supertypes t2_count t2_interfaceSet t2_supertypes) H := hP
  have hD : va_D _ (W_t_t2 cI cM a_t a_t_supertypes a_t2 a_t2_supertypes t2_count t_interfaceSet t_supertypes t2_count t2_interfaceSet t2_supertypes) := hD
  refine lv_aload_n hx hb dX7_copyFrom_8 rfl (lv_at hl 0 rfl) ?_
  refine lv_aload_n hx hb dX7_copyFrom_9 rfl (lv_at hl 1 rfl) ?_
  refine va_get (D := D) (ci := 7) (v := .int t2_interfaceSet) (C := RX7) (T := TX7) (N := 3) hx hb hts hinX7 hown hKK.1 hP 2 rfl rfl 1 (by decide) lk23 (fun _ h9 => h9) rfl dX7_copyFrom_10 ?_
  refine va_put (D := D) (ci := 7) (v := .int t2_interfaceSet) (ty := .int) (C := RX7) (T := TX7) (N := 3) hx hb hts hinX7 tyX7 tyX7_ok nmX7 hown hKK.1 hP hD hS 0 rfl rfl 1 (by decide) lk23 (fun _ h9 => h9) rfl (by decide +kernel) rfl rfl (Nat.le_of_ble_eq_true rfl) dX7_copyFrom_13 (fun H locs hP hD hS => ?_)
  have hP : va_P D vwCl (W_t_t2 cI cM a_t a_t_supertypes a_t2 a_t2_supertypes t2_count t2_interfaceSet t_supertypes t2_count t2_interfaceSet t2_supertypes) H := hP
  have hD : va_D _ (W_t_t2 cI cM a_t a_t_supertypes a_t2 a_t2_supertypes t2_count t2_interfaceSet t_supertypes t2_count t2_interfaceSet t2_supertypes) := hD
  refine lv_aload_n hx hb dX7_copyFrom_16 rfl (lv_at hl 1 rfl) ?_
  refine va_get (D := D) (ci := 7) (v := .ref a_t2_supertypes) (C := RX7) (T := TX7) (N := 3) hx hb hts hinX7 hown hKK.1 hP 2 rfl rfl 2 (by decide) lk9 (fun _ h9 => h9) rfl dX7_copyFrom_17 ?_
  refine lv_aload_n hx hb dX7_copyFrom_20 rfl (lv_at hl 0 rfl) ?_
  refine va_get (D := D) (ci := 7) (v := .ref a_t_supertypes) (C := RX7) (T := TX7) (N := 3) hx hb hts hinX7 hown hKK.1 hP 0 rfl rfl 2 (by decide) lk9 (fun _ h9 => h9) rfl dX7_copyFrom_21 ?_
  refine kSNI (As := [.ref a_t2_supertypes, .ref a_t_supertypes]) (rest := []) (st1 := []) SS hKK (qX8_copyRow l D cI cM a_t2_supertypes a_t_supertypes 8 (by decide) t2_supertypes t_supertypes) cw37 hP hD hS [3, 1] rfl rfl rfl rfl rfl hl.1 rfl (Nat.le_of_ble_eq_true rfl) dX7_copyFrom_24 ⟨Nat.zero_le _, Nat.zero_le _⟩ rfl (fun H locs hP hD hS => ?_)
  have hP : va_P D vwCl (W_t_t2 cI cM a_t a_t_supertypes a_t2 a_t2_supertypes t2_count t2_interfaceSet t2_supertypes t2_count t2_interfaceSet t2_supertypes) H := hP
  have hD : va_D _ (W_t_t2 cI cM a_t a_t_supertypes a_t2 a_t2_supertypes t2_count t2_interfaceSet t2_supertypes t2_count t2_interfaceSet t2_supertypes) := hD
  simp only [Option.some.injEq, Prod.mk.injEq] at h
  obtain ⟨e0, e1, e2⟩ := h
  exact kRetV hx hb hr hlk (by rw [← hw1, ← e0, ← e1, ← e2]; exact hP) hS dX7_copyFrom_27
set_option maxHeartbeats 8000000 in
set_option maxRecDepth 100000 in
theorem qX5_copyFrom (l : Launch) (D : va_G) (cI cM : ClassId) (a_m a_m_type a_m_name a_m_arity a_m_keys a_m_defaults a_m2 a_m2_type a_m2_name a_m2_arity a_m2_keys a_m2_defaults : Nat) (m_count : Int32) (m_type : Nat → Int32) (m_name : Nat → Int32) (m_arity : Nat → Int32) (m_keys : Nat → Int32) (m_defaults : Nat → Int32) (m2_count : Int32) (m2_type : Nat → Int32) (m2_name : Nat → Int32) (m2_arity : Nat → Int32) (m2_keys : Nat → Int32) (m2_defaults : Nat → Int32) (r_m_count : Int32) (r_m_type : Nat → Int32) (r_m_name : Nat → Int32) (r_m_arity : Nat → Int32) (r_m_keys : Nat → Int32) (r_m_defaults : Nat → Int32) (h : fX5_copyFrom m_count m_type m_name m_arity m_keys m_defaults m2_count m2_type m2_name m2_arity m2_keys m2_defaults = some (r_m_count, r_m_type, r_m_name, r_m_arity, r_m_keys, r_m_defaults)) : IM l yX5_copyFrom wsX5_copyFrom rmX5_copyFrom D cI cM [.ref a_m, .ref a_m2] (W_m_m2 cI cM a_m a_m_type a_m_name a_m_arity a_m_keys a_m_defaults a_m2 a_m2_type a_m2_name a_m2_arity a_m2_keys a_m2_defaults m_count m_type m_name m_arity m_keys m_defaults m2_count m2_type m2_name m2_arity m2_keys m2_defaults) (W_m_m2 cI cM a_m a_m_type a_m_name a_m_arity a_m_keys a_m_defaults a_m2 a_m2_type a_m2_name a_m2_arity a_m2_keys a_m2_defaults r_m_count r_m_type r_m_name r_m_arity r_m_keys r_m_defaults m2_count m2_type m2_name m2_arity m2_keys m2_defaults) none := by
  refine IM.of (cc := cX5_copyFrom) (maxL := 2) (ret := none) (by decide) rfl (Nat.le_of_ble_eq_true rfl) ?_
  intro p e s m below meth c ls hx hb hr hml hown hts hlk hKK hP hD hS hl
  have hown : s.vm.findClass RX5 = some m.cls := hown
  have hl : lv_has ls 2 [(0, .ref a_m), (1, .ref a_m2)] := hl
  generalize hav : ([.ref a_m, .ref a_m2] : List Value) = av at hts ⊢
  generalize hw1 : W_m_m2 cI cM a_m a_m_type a_m_name a_m_arity a_m_keys a_m_defaults a_m2 a_m2_type a_m2_name a_m2_arity a_m2_keys a_m2_defaults r_m_count r_m_type r_m_name r_m_arity r_m_keys r_m_defaults m2_count m2_type m2_name m2_arity m2_keys m2_defaults = w1
  generalize hw0 : W_m_m2 cI cM a_m a_m_type a_m_name a_m_arity a_m_keys a_m_defaults a_m2 a_m2_type a_m2_name a_m2_arity a_m2_keys a_m2_defaults m_count m_type m_name m_arity m_keys m_defaults m2_count m2_type m2_name m2_arity m2_keys m2_defaults = w0 at hD hS ⊢
  have hP : va_P D vwCl (W_m_m2 cI cM a_m a_m_type a_m_name a_m_arity a_m_keys a_m_defaults a_m2 a_m2_type a_m2_name a_m2_arity a_m2_keys a_m2_defaults m_count m_type m_name m_arity m_keys m_defaults m2_count m2_type m2_name m2_arity m2_keys m2_defaults) s.heap := hP
  have hD : va_D (fun q => q ∈ w0.map (·.1)) (W_m_m2 cI cM a_m a_m_type a_m_name a_m_arity a_m_keys a_m_defaults a_m2 a_m2_type a_m2_name a_m2_arity a_m2_keys a_m2_defaults m_count m_type m_name m_arity m_keys m_defaults m2_count m2_type m2_name m2_arity m2_keys m2_defaults) := by rw [hw0]; exact hD
  have SS : CallFix p m c cX5_copyFrom 2 s av.toArray wsX5_copyFrom RX5 := ⟨hx, hb, hml, hown, hts⟩
  have hinX5 : ∀ w ∈ u_ws RX5 TX5 6, w ∈ wsX5_copyFrom := by decide +kernel
  have lk9 := hts (.fieldLink RX5 9 "SignatureChanger$Methods" "type" "[I") (List.mem_of_getElem? (i := 2) rfl)
  have lk15 := hts (.fieldLink RX5 15 "SignatureChanger$Methods" "name" "[I") (List.mem_of_getElem? (i := 3) rfl)
  have lk18 := hts (.fieldLink RX5 18 "SignatureChanger$Methods" "arity" "[I") (List.mem_of_getElem? (i := 4) rfl)
  have lk21 := hts (.fieldLink RX5 21 "SignatureChanger$Methods" "keys" "[I") (List.mem_of_getElem? (i := 5) rfl)
  have lk24 := hts (.fieldLink RX5 24 "SignatureChanger$Methods" "defaults" "[I") (List.mem_of_getElem? (i := 6) rfl)
  have lk27 := hts (.fieldLink RX5 27 "SignatureChanger$Methods" "count" "I") (List.mem_of_getElem? (i := 1) rfl)
  have cw72 : va_CN rmX5_copyFrom s av.toArray RX5 72 yX8_copyRow RX8 cX8_copyRow 2 none wsX8_copyRow rmX8_copyRow 0 0 2 ∧ (Cond.static yX8_copyRow).before av.toArray s = true ∧ True := ⟨va_cnB 2 hts gX5_copyFrom_X8_copyRow_n72 rfl rfl rfl (hKK.2.at 12 rfl) (hts (.initialized RX8) (List.mem_of_getElem? (i := 8) rfl)) (by decide +kernel) ⟨Nat.le_of_ble_eq_true rfl, Nat.le_of_ble_eq_true rfl⟩, hts (.static yX8_copyRow) (List.mem_of_getElem? (i := 7) rfl), trivial⟩
  unfold fX5_copyFrom at h
  refine lv_aload_n hx hb dX5_copyFrom_0 rfl (lv_at hl 0 rfl) ?_
  refine lv_aload_n hx hb dX5_copyFrom_1 rfl (lv_at hl 1 rfl) ?_
  refine va_get (D := D) (ci := 5) (v := .int m2_count) (C := RX5) (T := TX5) (N := 6) hx hb hts hinX5 hown hKK.1 hP 6 rfl rfl 0 (by decide) lk27 (fun _ h9 => h9) rfl dX5_copyFrom_2 ?_
  refine va_put (D := D) (ci := 5) (v := .int m2_count) (ty := .int) (C := RX5) (T := TX5) (N := 6) hx hb hts hinX5 tyX5 tyX5_ok nmX5 hown hKK.1 hP hD hS 0 rfl rfl 0 (by decide) lk27 (fun _ h9 => h9) rfl (by decide +kernel) rfl rfl (Nat.le_of_ble_eq_true rfl) dX5_copyFrom_5 (fun H locs hP hD hS => ?_)
  have hP : va_P D vwCl (W_m_m2 cI cM a_m a_m_type a_m_name a_m_arity a_m_keys a_m_defaults a_m2 a_m2_type a_m2_name a_m2_arity a_m2_keys a_m2_defaults m2_count m_type m_name m_arity m_keys m_defaults m2_count m2_type m2_name m2_arity m2_keys m2_defaults) H := hP
  have hD : va_D _ (W_m_m2 cI cM a_m a_m_type a_m_name a_m_arity a_m_keys a_m_defaults a_m2 a_m2_type a_m2_name a_m2_arity a_m2_keys a_m2_defaults m2_count m_type m_name m_arity m_keys m_defaults m2_count m2_type m2_name m2_arity m2_keys m2_defaults) := hD
  refine lv_aload_n hx hb dX5_copyFrom_8 rfl (lv_at hl 1 rfl) ?_
  refine va_get (D := D) (ci := 5) (v := .ref a_m2_type) (C := RX5) (T := TX5) (N := 6) hx hb hts hinX5 hown hKK.1 hP 6 rfl rfl 1 (by decide) lk9 (fun _ h9 => h9) rfl dX5_copyFrom_9 ?_
  refine lv_aload_n hx hb dX5_copyFrom_12 rfl (lv_at hl 0 rfl) ?_
  refine va_get (D := D) (ci := 5) (v := .ref a_m_type) (C := RX5) (T := TX5) (N := 6) hx hb hts hinX5 hown hKK.1 hP 0 rfl rfl 1 (by decide) lk9 (fun _ h9 => h9) rfl dX5_copyFrom_13 ?_
  refine kSNI (As := [.ref a_m2_type, .ref a_m_type]) (rest := []) (st1 := []) SS hKK (qX8_copyRow l D cI cM a_m2_type a_m_type 16 (by decide) m2_type m_type) cw72 hP hD hS [7, 1] rfl rfl rfl rfl rfl hl.1 rfl (Nat.le_of_ble_eq_true rfl) dX5_copyFrom_16 ⟨Nat.zero_le _, Nat.zero_le _⟩ rfl (fun H locs hP hD hS => ?_)
  have hP : va_P D vwCl (W_m_m2 cI cM a_m a_m_type a_m_name a_m_arity a_m_keys a_m_defaults a_m2 a_m2_type a_m2_name a_m2_arity a_m2_keys a_m2_defaults m2_count m2_type m_name m_arity m_keys m_defaults m2_count m2_type m2_name m2_arity m2_keys m2_defaults) H := hP
  have hD : va_D _ (W_m_m2 cI cM a_m a_m_type a_m_name a_m_arity a_m_keys a_m_defaults a_m2 a_m2_type a_m2_name a_m2_arity a_m2_keys a_m2_defaults m2_count m2_type m_name m_arity m_keys m_defaults m2_count m2_type m2_name m2_arity m2_keys m2_defaults) := hD
  refine lv_aload_n hx hb dX5_copyFrom_19 rfl (lv_at hl 1 rfl) ?_
  refine va_get (D := D) (ci := 5) (v := .ref a_m2_name) (C := RX5) (T := TX5) (N := 6) hx hb hts hinX5 hown hKK.1 hP 6 rfl rfl 2 (by decide) lk15 (fun _ h9 => h9) rfl dX5_copyFrom_20 ?_
  refine lv_aload_n hx hb dX5_copyFrom_23 rfl (lv_at hl 0 rfl) ?_
  refine va_get (D := D) (ci := 5) (v := .ref a_m_name) (C := RX5) (T := TX5) (N := 6) hx hb hts hinX5 hown hKK.1 hP 0 rfl rfl 2 (by decide) lk15 (fun _ h9 => h9) rfl dX5_copyFrom_24 ?_
  refine kSNI (As := [.ref a_m2_name, .ref a_m_name]) (rest := []) (st1 := []) SS hKK (qX8_copyRow l D cI cM a_m2_name a_m_name 16 (by decide) m2_name m_name) cw72 hP hD hS [8, 2] rfl rfl rfl rfl rfl hl.1 rfl (Nat.le_of_ble_eq_true rfl) dX5_copyFrom_27 ⟨Nat.zero_le _, Nat.zero_le _⟩ rfl (fun H locs hP hD hS => ?_)
  have hP : va_P D vwCl (W_m_m2 cI cM a_m a_m_type a_m_name a_m_arity a_m_keys a_m_defaults a_m2 a_m2_type a_m2_name a_m2_arity a_m2_keys a_m2_defaults m2_count m2_type m2_name m_arity m_keys m_defaults m2_count m2_type m2_name m2_arity m2_keys m2_defaults) H := hP
  have hD : va_D _ (W_m_m2 cI cM a_m a_m_type a_m_name a_m_arity a_m_keys a_m_defaults a_m2 a_m2_type a_m2_name a_m2_arity a_m2_keys a_m2_defaults m2_count m2_type m2_name m_arity m_keys m_defaults m2_count m2_type m2_name m2_arity m2_keys m2_defaults) := hD
  refine lv_aload_n hx hb dX5_copyFrom_30 rfl (lv_at hl 1 rfl) ?_
  refine va_get (D := D) (ci := 5) (v := .ref a_m2_arity) (C := RX5) (T := TX5) (N := 6) hx hb hts hinX5 hown hKK.1 hP 6 rfl rfl 3 (by decide) lk18 (fun _ h9 => h9) rfl dX5_copyFrom_31 ?_
  refine lv_aload_n hx hb dX5_copyFrom_34 rfl (lv_at hl 0 rfl) ?_
  refine va_get (D := D) (ci := 5) (v := .ref a_m_arity) (C := RX5) (T := TX5) (N := 6) hx hb hts hinX5 hown hKK.1 hP 0 rfl rfl 3 (by decide) lk18 (fun _ h9 => h9) rfl dX5_copyFrom_35 ?_
  refine kSNI (As := [.ref a_m2_arity, .ref a_m_arity]) (rest := []) (st1 := []) SS hKK (qX8_copyRow l D cI cM a_m2_arity a_m_arity 16 (by decide) m2_arity m_arity) cw72 hP hD hS [9, 3] rfl rfl rfl rfl rfl hl.1 rfl (Nat.le_of_ble_eq_true rfl) dX5_copyFrom_38 ⟨Nat.zero_le _, Nat.zero_le _⟩ rfl (fun H locs hP hD hS => ?_)
  have hP : va_P D vwCl (W_m_m2 cI cM a_m a_m_type a_m_name a_m_arity a_m_keys a_m_defaults a_m2 a_m2_type a_m2_name a_m2_arity a_m2_keys a_m2_defaults m2_count m2_type m2_name m2_arity m_keys m_defaults m2_count m2_type m2_name m2_arity m2_keys m2_defaults) H := hP
  have hD : va_D _ (W_m_m2 cI cM a_m a_m_type a_m_name a_m_arity a_m_keys a_m_defaults a_m2 a_m2_type a_m2_name a_m2_arity a_m2_keys a_m2_defaults m2_count m2_type m2_name m2_arity m_keys m_defaults m2_count m2_type m2_name m2_arity m2_keys m2_defaults) := hD
  refine lv_aload_n hx hb dX5_copyFrom_41 rfl (lv_at hl 1 rfl) ?_
  refine va_get (D := D) (ci := 5) (v := .ref a_m2_keys) (C := RX5) (T := TX5) (N := 6) hx hb hts hinX5 hown hKK.1 hP 6 rfl rfl 4 (by decide) lk21 (fun _ h9 => h9) rfl dX5_copyFrom_42 ?_
  refine lv_aload_n hx hb dX5_copyFrom_45 rfl (lv_at hl 0 rfl) ?_
  refine va_get (D := D) (ci := 5) (v := .ref a_m_keys) (C := RX5) (T := TX5) (N := 6) hx hb hts hinX5 hown hKK.1 hP 0 rfl rfl 4 (by decide) lk21 (fun _ h9 => h9) rfl dX5_copyFrom_46 ?_
  refine kSNI (As := [.ref a_m2_keys, .ref a_m_keys]) (rest := []) (st1 := []) SS hKK (qX8_copyRow l D cI cM a_m2_keys a_m_keys 80 (by decide) m2_keys m_keys) cw72 hP hD hS [10, 4] rfl rfl rfl rfl rfl hl.1 rfl (Nat.le_of_ble_eq_true rfl) dX5_copyFrom_49 ⟨Nat.zero_le _, Nat.zero_le _⟩ rfl (fun H locs hP hD hS => ?_)
  have hP : va_P D vwCl (W_m_m2 cI cM a_m a_m_type a_m_name a_m_arity a_m_keys a_m_defaults a_m2 a_m2_type a_m2_name a_m2_arity a_m2_keys a_m2_defaults m2_count m2_type m2_name m2_arity m2_keys m_defaults m2_count m2_type m2_name m2_arity m2_keys m2_defaults) H := hP
  have hD : va_D _ (W_m_m2 cI cM a_m a_m_type a_m_name a_m_arity a_m_keys a_m_defaults a_m2 a_m2_type a_m2_name a_m2_arity a_m2_keys a_m2_defaults m2_count m2_type m2_name m2_arity m2_keys m_defaults m2_count m2_type m2_name m2_arity m2_keys m2_defaults) := hD
  refine lv_aload_n hx hb dX5_copyFrom_52 rfl (lv_at hl 1 rfl) ?_
  refine va_get (D := D) (ci := 5) (v := .ref a_m2_defaults) (C := RX5) (T := TX5) (N := 6) hx hb hts hinX5 hown hKK.1 hP 6 rfl rfl 5 (by decide) lk24 (fun _ h9 => h9) rfl dX5_copyFrom_53 ?_
  refine lv_aload_n hx hb dX5_copyFrom_56 rfl (lv_at hl 0 rfl) ?_
  refine va_get (D := D) (ci := 5) (v := .ref a_m_defaults) (C := RX5) (T := TX5) (N := 6) hx hb hts hinX5 hown hKK.1 hP 0 rfl rfl 5 (by decide) lk24 (fun _ h9 => h9) rfl dX5_copyFrom_57 ?_
  refine kSNI (As := [.ref a_m2_defaults, .ref a_m_defaults]) (rest := []) (st1 := []) SS hKK (qX8_copyRow l D cI cM a_m2_defaults a_m_defaults 80 (by decide) m2_defaults m_defaults) cw72 hP hD hS [11, 5] rfl rfl rfl rfl rfl hl.1 rfl (Nat.le_of_ble_eq_true rfl) dX5_copyFrom_60 ⟨Nat.zero_le _, Nat.zero_le _⟩ rfl (fun H locs hP hD hS => ?_)
  have hP : va_P D vwCl (W_m_m2 cI cM a_m a_m_type a_m_name a_m_arity a_m_keys a_m_defaults a_m2 a_m2_type a_m2_name a_m2_arity a_m2_keys a_m2_defaults m2_count m2_type m2_name m2_arity m2_keys m2_defaults m2_count m2_type m2_name m2_arity m2_keys m2_defaults) H := hP
  have hD : va_D _ (W_m_m2 cI cM a_m a_m_type a_m_name a_m_arity a_m_keys a_m_defaults a_m2 a_m2_type a_m2_name a_m2_arity a_m2_keys a_m2_defaults m2_count m2_type m2_name m2_arity m2_keys m2_defaults m2_count m2_type m2_name m2_arity m2_keys m2_defaults) := hD
  simp only [Option.some.injEq, Prod.mk.injEq] at h
  obtain ⟨e0, e1, e2, e3, e4, e5⟩ := h
  exact kRetV hx hb hr hlk (by rw [← hw1, ← e0, ← e1, ← e2, ← e3, ← e4, ← e5]; exact hP) hS dX5_copyFrom_63
set_option maxHeartbeats 8000000 in
set_option maxRecDepth 100000 in
theorem qX6_copyFrom (l : Launch) (D : va_G) (cI cM : ClassId) (a_o a_t a_t_supertypes a_m a_m_type a_m_name a_m_arity a_m_keys a_m_defaults a_k a_k_staticType a_k_dynamicType a_k_target a_k_argumentCounts a_k_temporaryCounts a_k_keys a_k_kinds a_k_values a_k_temporaryKinds a_k_newKinds a_k_newValues a_o2 a_t2 a_t2_supertypes a_m2 a_m2_type a_m2_name a_m2_arity a_m2_keys a_m2_defaults a_k2 a_k2_staticType a_k2_dynamicType a_k2_target a_k2_argumentCounts a_k2_temporaryCounts a_k2_keys a_k2_kinds a_k2_values a_k2_temporaryKinds a_k2_newKinds a_k2_newValues : Nat) (t_count : Int32) (t_interfaceSet : Int32) (t_supertypes : Nat → Int32) (m_count : Int32) (m_type : Nat → Int32) (m_name : Nat → Int32) (m_arity : Nat → Int32) (m_keys : Nat → Int32) (m_defaults : Nat → Int32) (k_count : Int32) (k_frozenSet : Int32) (k_staticType : Nat → Int32) (k_dynamicType : Nat → Int32) (k_target : Nat → Int32) (k_argumentCounts : Nat → Int32) (k_temporaryCounts : Nat → Int32) (k_keys : Nat → Int32) (k_kinds : Nat → Int32) (k_values : Nat → Int32) (k_temporaryKinds : Nat → Int32) (k_newKinds : Nat → Int32) (k_newValues : Nat → Int32) (t2_count : Int32) (t2_interfaceSet : Int32) (t2_supertypes : Nat → Int32) (m2_count : Int32) (m2_type : Nat → Int32) (m2_name : Nat → Int32) (m2_arity : Nat → Int32) (m2_keys : Nat → Int32) (m2_defaults : Nat → Int32) (k2_count : Int32) (k2_frozenSet : Int32) (k2_staticType : Nat → Int32) (k2_dynamicType : Nat → Int32) (k2_target : Nat → Int32) (k2_argumentCounts : Nat → Int32) (k2_temporaryCounts : Nat → Int32) (k2_keys : Nat → Int32) (k2_kinds : Nat → Int32) (k2_values : Nat → Int32) (k2_temporaryKinds : Nat → Int32) (k2_newKinds : Nat → Int32) (k2_newValues : Nat → Int32) (r_t_count : Int32) (r_t_interfaceSet : Int32) (r_t_supertypes : Nat → Int32) (r_m_count : Int32) (r_m_type : Nat → Int32) (r_m_name : Nat → Int32) (r_m_arity : Nat → Int32) (r_m_keys : Nat → Int32) (r_m_defaults : Nat → Int32) (r_k_count : Int32) (r_k_frozenSet : Int32) (r_k_staticType : Nat → Int32) (r_k_dynamicType : Nat → Int32) (r_k_target : Nat → Int32) (r_k_argumentCounts : Nat → Int32) (r_k_temporaryCounts : Nat → Int32) (r_k_keys : Nat → Int32) (r_k_kinds : Nat → Int32) (r_k_values : Nat → Int32) (r_k_temporaryKinds : Nat → Int32) (h : fX6_copyFrom t_count t_interfaceSet t_supertypes m_count m_type m_name m_arity m_keys m_defaults k_count k_frozenSet k_staticType k_dynamicType k_target k_argumentCounts k_temporaryCounts k_keys k_kinds k_values k_temporaryKinds t2_count t2_interfaceSet t2_supertypes m2_count m2_type m2_name m2_arity m2_keys m2_defaults k2_count k2_frozenSet k2_staticType k2_dynamicType k2_target k2_argumentCounts k2_temporaryCounts k2_keys k2_kinds k2_values k2_temporaryKinds = some (r_t_count, r_t_interfaceSet, r_t_supertypes, r_m_count, r_m_type, r_m_name, r_m_arity, r_m_keys, r_m_defaults, r_k_count, r_k_frozenSet, r_k_staticType, r_k_dynamicType, r_k_target, r_k_argumentCounts, r_k_temporaryCounts, r_k_keys, r_k_kinds, r_k_values, r_k_temporaryKinds)) : IM l yX6_copyFrom wsX6_copyFrom rmX6_copyFrom D cI cM [.ref a_o, .ref a_o2] (W_o_t_m_k_o2_t2_m2_k2 cI cM a_o a_t a_t_supertypes a_m a_m_type a_m_name a_m_arity a_m_keys a_m_defaults a_k a_k_staticType a_k_dynamicType a_k_target a_k_argumentCounts a_k_temporaryCounts a_k_keys a_k_kinds a_k_values a_k_temporaryKinds a_k_newKinds a_k_newValues a_o2 a_t2 a_t2_supertypes a_m2 a_m2_type a_m2_name a_m2_arity a_m2_keys a_m2_defaults a_k2 a_k2_staticType a_k2_dynamicType a_k2_target a_k2_argumentCounts a_k2_temporaryCounts a_k2_keys a_k2_kinds a_k2_values a_k2_temporaryKinds a_k2_newKinds a_k2_newValues t_count t_interfaceSet t_supertypes m_count m_type m_name m_arity m_keys m_defaults k_count k_frozenSet k_staticType k_dynamicType k_target k_argumentCounts k_temporaryCounts k_keys k_kinds k_values k_temporaryKinds k_newKinds k_newValues t2_count t2_interfaceSet t2_supertypes m2_count m2_type m2_name m2_arity m2_keys m2_defaults k2_count k2_frozenSet k2_staticType k2_dynamicType k2_target k2_argumentCounts k2_temporaryCounts k2_keys k2_kinds k2_values k2_temporaryKinds k2_newKinds k2_newValues) (W_o_t_m_k_o2_t2_m2_k2 cI cM a_o a_t a_t_supertypes a_m a_m_type a_m_name a_m_arity a_m_keys a_m_defaults a_k a_k_staticType a_k_dynamicType a_k_target a_k_argumentCounts a_k_temporaryCounts a_k_keys a_k_kinds a_k_values a_k_temporaryKinds a_k_newKinds a_k_newValues a_o2 a_t2 a_t2_supertypes a_m2 a_m2_type a_m2_name a_m2_arity a_m2_keys a_m2_defaults a_k2 a_k2_staticType a_k2_dynamicType a_k2_target a_k2_argumentCounts a_k2_temporaryCounts a_k2_keys a_k2_kinds a_k2_values a_k2_temporaryKinds a_k2_newKinds a_k2_newValues r_t_count r_t_interfaceSet r_t_supertypes r_m_count r_m_type r_m_name r_m_arity r_m_keys r_m_defaults r_k_count r_k_frozenSet r_k_staticType r_k_dynamicType r_k_target r_k_argumentCounts r_k_temporaryCounts r_k_keys r_k_kinds r_k_values r_k_temporaryKinds k_newKinds k_newValues t2_count t2_interfaceSet t2_supertypes m2_count m2_type m2_name m2_arity m2_keys m2_defaults k2_count k2_frozenSet k2_staticType k2_dynamicType k2_target k2_argumentCounts k2_temporaryCounts k2_keys k2_kinds k2_values k2_temporaryKinds k2_newKinds k2_newValues) none := by
  refine IM.of (cc := cX6_copyFrom) (maxL := 2) (ret := none) (by decide) rfl (Nat.le_of_ble_eq_true rfl) ?_
  intro p e s m below meth c ls hx hb hr hml hown hts hlk hKK hP hD hS hl
  have hown : s.vm.findClass RX6 = some m.cls := hown
  have hl : lv_has ls 2 [(0, .ref a_o), (1, .ref a_o2)] := hl
  generalize hav : ([.ref a_o, .ref a_o2] : List Value) = av at hts ⊢
  generalize hw1 : W_o_t_m_k_o2_t2_m2_k2 cI cM a_o a_t a_t_supertypes a_m a_m_type a_m_name a_m_arity a_m_keys a_m_defaults a_k a_k_staticType a_k_dynamicType a_k_target a_k_argumentCounts a_k_temporaryCounts a_k_keys a_k_kinds a_k_values a_k_temporaryKinds a_k_newKinds a_k_newValues a_o2 a_t2 a_t2_supertypes a_m2 a_m2_type a_m2_name a_m2_arity a_m2_keys a_m2_defaults a_k2 a_k2_staticType a_k2_dynamicType a_k2_target a_k2_argumentCounts a_k2_temporaryCounts a_k2_keys a_k2_kinds a_k2_values a_k2_temporaryKinds a_k2_newKinds a_k2_newValues r_t_count r_t_interfaceSet r_t_supertypes r_m_count r_m_type r_m_name r_m_arity r_m_keys r_m_defaults r_k_count r_k_frozenSet r_k_staticType r_k_dynamicType r_k_target r_k_argumentCounts r_k_temporaryCounts r_k_keys r_k_kinds r_k_values r_k_temporaryKinds k_newKinds k_newValues t2_count t2_interfaceSet t2_supertypes m2_count m2_type m2_name m2_arity m2_keys m2_defaults k2_count k2_frozenSet k2_staticType k2_dynamicType k2_target k2_argumentCounts k2_temporaryCounts k2_keys k2_kinds k2_values k2_temporaryKinds k2_newKinds k2_newValues = w1
  generalize hw0 : W_o_t_m_k_o2_t2_m2_k2 cI cM a_o a_t a_t_supertypes a_m a_m_type a_m_name a_m_arity a_m_keys a_m_defaults a_k a_k_staticType a_k_dynamicType a_k_target a_k_argumentCounts a_k_temporaryCounts a_k_keys a_k_kinds a_k_values a_k_temporaryKinds a_k_newKinds a_k_newValues a_o2 a_t2 a_t2_supertypes a_m2 a_m2_type a_m2_name a_m2_arity a_m2_keys a_m2_defaults a_k2 a_k2_staticType a_k2_dynamicType a_k2_target a_k2_argumentCounts a_k2_temporaryCounts a_k2_keys a_k2_kinds a_k2_values a_k2_temporaryKinds a_k2_newKinds a_k2_newValues t_count t_interfaceSet t_supertypes m_count m_type m_name m_arity m_keys m_defaults k_count k_frozenSet k_staticType k_dynamicType k_target k_argumentCounts k_temporaryCounts k_keys k_kinds k_values k_temporaryKinds k_newKinds k_newValues t2_count t2_interfaceSet t2_supertypes m2_count m2_type m2_name m2_arity m2_keys m2_defaults k2_count k2_frozenSet k2_staticType k2_dynamicType k2_target k2_argumentCounts k2_temporaryCounts k2_keys k2_kinds k2_values k2_temporaryKinds k2_newKinds k2_newValues = w0 at hD hS ⊢
  have hP : va_P D vwCl (W_o_t_m_k_o2_t2_m2_k2 cI cM a_o a_t a_t_supertypes a_m a_m_type a_m_name a_m_arity a_m_keys a_m_defaults a_k a_k_staticType a_k_dynamicType a_k_target a_k_argumentCounts a_k_temporaryCounts a_k_keys a_k_kinds a_k_values a_k_temporaryKinds a_k_newKinds a_k_newValues a_o2 a_t2 a_t2_supertypes a_m2 a_m2_type a_m2_name a_m2_arity a_m2_keys a_m2_defaults a_k2 a_k2_staticType a_k2_dynamicType a_k2_target a_k2_argumentCounts a_k2_temporaryCounts a_k2_keys a_k2_kinds a_k2_values a_k2_temporaryKinds a_k2_newKinds a_k2_newValues t_count t_interfaceSet t_supertypes m_count m_type m_name m_arity m_keys m_defaults k_count k_frozenSet k_staticType k_dynamicType k_target k_argumentCounts k_temporaryCounts k_keys k_kinds k_values k_temporaryKinds k_newKinds k_newValues t2_count t2_interfaceSet t2_supertypes m2_count m2_type m2_name m2_arity m2_keys m2_defaults k2_count k2_frozenSet k2_staticType k2_dynamicType k2_target k2_argumentCounts k2_temporaryCounts k2_keys k2_kinds k2_values k2_temporaryKinds k2_newKinds k2_newValues) s.heap := hP
  have hD : va_D (fun q => q ∈ w0.map (·.1)) (W_o_t_m_k_o2_t2_m2_k2 cI cM a_o a_t a_t_supertypes a_m a_m_type a_m_name a_m_arity a_m_keys a_m_defaults a_k a_k_staticType a_k_dynamicType a_k_target a_k_argumentCounts a_k_temporaryCounts a_k_keys a_k_kinds a_k_values a_k_temporaryKinds a_k_newKinds a_k_newValues a_o2 a_t2 a_t2_supertypes a_m2 a_m2_type a_m2_name a_m2_arity a_m2_keys a_m2_defaults a_k2 a_k2_staticType a_k2_dynamicType a_k2_target a_k2_argumentCounts a_k2_temporaryCounts a_k2_keys a_k2_kinds a_k2_values a_k2_temporaryKinds a_k2_newKinds a_k2_newValues t_count t_interfaceSet t_supertypes m_count m_type m_name m_arity m_keys m_defaults k_count k_frozenSet k_staticType k_dynamicType k_target k_argumentCounts k_temporaryCounts k_keys k_kinds k_values k_temporaryKinds k_newKinds k_newValues t2_count t2_interfaceSet t2_supertypes m2_count m2_type m2_name m2_arity m2_keys m2_defaults k2_count k2_frozenSet k2_staticType k2_dynamicType k2_target k2_argumentCounts k2_temporaryCounts k2_keys k2_kinds k2_values k2_temporaryKinds k2_newKinds k2_newValues) := by rw [hw0]; exact hD
  have SS : CallFix p m c cX6_copyFrom 2 s av.toArray wsX6_copyFrom RX6 := ⟨hx, hb, hml, hown, hts⟩
  have hinX6 : ∀ w ∈ u_ws RX6 TX6 3, w ∈ wsX6_copyFrom := by decide +kernel
  have lk12 := hts (.fieldLink RX6 12 "SignatureChanger$Model" "types" "LSignatureChanger$Types;") (List.mem_of_getElem? (i := 1) rfl)
  have lk21 := hts (.fieldLink RX6 21 "SignatureChanger$Model" "methods" "LSignatureChanger$Methods;") (List.mem_of_getElem? (i := 2) rfl)
  have lk28 := hts (.fieldLink RX6 28 "SignatureChanger$Model" "calls" "LSignatureChanger$Calls;") (List.mem_of_getElem? (i := 3) rfl)
  have cw32 : CallW rmX6_copyFrom s av.toArray RX6 RX7 32 yX7_copyFrom cX7_copyFrom 2 none wsX7_copyFrom rmX7_copyFrom 0 0 1 := cwV 1 hts gX6_copyFrom_X7_copyFrom rfl rfl rfl (by decide +kernel) ⟨Nat.le_of_ble_eq_true rfl, Nat.le_of_ble_eq_true rfl⟩
  have cw36 : CallW rmX6_copyFrom s av.toArray RX6 RX5 36 yX5_copyFrom cX5_copyFrom 2 none wsX5_copyFrom rmX5_copyFrom 0 0 1 := cwV 1 hts gX6_copyFrom_X5_copyFrom rfl rfl rfl (by decide +kernel) ⟨Nat.le_of_ble_eq_true rfl, Nat.le_of_ble_eq_true rfl⟩
  have cw39 : CallW rmX6_copyFrom s av.toArray RX6 RX0 39 yX0_copyFrom cX0_copyFrom 2 none wsX0_copyFrom rmX0_copyFrom 0 0 1 := cwV 1 hts gX6_copyFrom_X0_copyFrom rfl rfl rfl (by decide +kernel) ⟨Nat.le_of_ble_eq_true rfl, Nat.le_of_ble_eq_true rfl⟩
  unfold fX6_copyFrom at h
  refine lv_aload_n hx hb dX6_copyFrom_0 rfl (lv_at hl 0 rfl) ?_
  refine va_get (D := D) (ci := 6) (v := .ref a_t) (C := RX6) (T := TX6) (N := 3) hx hb hts hinX6 hown hKK.1 hP 0 rfl rfl 0 (by decide) lk12 (fun _ h9 => h9) rfl dX6_copyFrom_1 ?_
  refine lv_aload_n hx hb dX6_copyFrom_4 rfl (lv_at hl 1 rfl) ?_
  refine va_get (D := D) (ci := 6) (v := .ref a_t2) (C := RX6) (T := TX6) (N := 3) hx hb hts hinX6 hown hKK.1 hP 21 rfl rfl 0 (by decide) lk12 (fun _ h9 => h9) rfl dX6_copyFrom_5 ?_
  obtain ⟨g1, g2, g3, eg1, h⟩ := bn3_some h
  refine kVI (As := [.ref a_t2]) (rest := []) (st1 := []) SS hKK (qX7_copyFrom l D cI cM a_t a_t_supertypes a_t2 a_t2_supertypes t_count t_interfaceSet t_supertypes t2_count t2_interfaceSet t2_supertypes g1 g2 g3 eg1) cw32 hP hD hS [1, 2, 22, 23] rfl rfl rfl rfl 0 7 rfl rfl rfl hl.1 rfl (Nat.le_of_ble_eq_true rfl) dX6_copyFrom_8 ⟨Nat.zero_le _, Nat.zero_le _⟩ rfl (fun H locs hP hD hS => ?_)
  have hP : va_P D vwCl (W_o_t_m_k_o2_t2_m2_k2 cI cM a_o a_t a_t_supertypes a_m a_m_type a_m_name a_m_arity a_m_keys a_m_defaults a_k a_k_staticType a_k_dynamicType a_k_target a_k_argumentCounts a_k_temporaryCounts a_k_keys a_k_kinds a_k_values a_k_temporaryKinds a_k_newKinds a_k_newValues a_o2 a_t2 a_t2_supertypes a_m2 a_m2_type a_m2_name a_m2_arity a_m2_keys a_m2_defaults a_k2 a_k2_staticType a_k2_dynamicType a_k2_target a_k2_argumentCounts a_k2_temporaryCounts a_k2_keys a_k2_kinds a_k2_values a_k2_temporaryKinds a_k2_newKinds a_k2_newValues g1 g2 g3 m_count m_type m_name m_arity m_keys m_defaults k_count k_frozenSet k_staticType k_dynamicType k_target k_argumentCounts k_temporaryCounts k_keys k_kinds k_values k_temporaryKinds k_newKinds k_newValues t2_count t2_interfaceSet t2_supertypes m2_count m2_type m2_name m2_arity m2_keys m2_defaults k2_count k2_frozenSet k2_staticType k2_dynamicType k2_target k2_argumentCounts k2_temporaryCounts k2_keys k2_kinds k2_values k2_temporaryKinds k2_newKinds k2_newValues) H := hP
  have hD : va_D _ (W_o_t_m_k_o2_t2_m2_k2 cI cM a_o a_t a_t_supertypes a_m a_m_type a_m_name a_m_arity a_m_keys a_m_defaults a_k a_k_staticType a_k_dynamicType a_k_target a_k_argumentCounts a_k_temporaryCounts a_k_keys a_k_kinds a_k_values a_k_temporaryKinds a_k_newKinds a_k_newValues a_o2 a_t2 a_t2_supertypes a_m2 a_m2_type a_m2_name a_m2_arity a_m2_keys a_m2_defaults a_k2 a_k2_staticType a_k2_dynamicType a_k2_target a_k2_argumentCounts a_k2_temporaryCounts a_k2_keys a_k2_kinds a_k2_values a_k2_temporaryKinds a_k2_newKinds a_k2_newValues g1 g2 g3 m_count m_type m_name m_arity m_keys m_defaults k_count k_frozenSet k_staticType k_dynamicType k_target k_argumentCounts k_temporaryCounts k_keys k_kinds k_values k_temporaryKinds k_newKinds k_newValues t2_count t2_interfaceSet t2_supertypes m2_count m2_type m2_name m2_arity m2_keys m2_defaults k2_count k2_frozenSet k2_staticType k2_dynamicType k2_target k2_argumentCounts k2_temporaryCounts k2_keys k2_kinds k2_values k2_temporaryKinds k2_newKinds k2_newValues) := hD
  refine lv_aload_n hx hb dX6_copyFrom_11 rfl (lv_at hl 0 rfl) ?_
  refine va_get (D := D) (ci := 6) (v := .ref a_m) (C := RX6) (T := TX6) (N := 3) hx hb hts hinX6 hown hKK.1 hP 0 rfl rfl 1 (by decide) lk21 (fun _ h9 => h9) rfl dX6_copyFrom_12 ?_
  refine lv_aload_n hx hb dX6_copyFrom_15 rfl (lv_at hl 1 rfl) ?_
  refine va_get (D := D) (ci := 6) (v := .ref a_m2) (C := RX6) (T := TX6) (N := 3) hx hb hts hinX6 hown hKK.1 hP 21 rfl rfl 1 (by decide) lk21 (fun _ h9 => h9) rfl dX6_copyFrom_16 ?_
  obtain ⟨g4, g5, g6, g7, g8, g9, eg4, h⟩ := bn6_some h
  refine kVI (As := [.ref a_m2]) (rest := []) (st1 := []) SS hKK (qX5_copyFrom l D cI cM a_m a_m_type a_m_name a_m_arity a_m_keys a_m_defaults a_m2 a_m2_type a_m2_name a_m2_arity a_m2_keys a_m2_defaults m_count m_type m_name m_arity m_keys m_defaults m2_count m2_type m2_name m2_arity m2_keys m2_defaults g4 g5 g6 g7 g8 g9 eg4) cw36 hP hD hS [3, 4, 5, 6, 7, 8, 24, 25, 26, 27, 28, 29] rfl rfl rfl rfl 0 5 rfl rfl rfl hl.1 rfl (Nat.le_of_ble_eq_true rfl) dX6_copyFrom_19 ⟨Nat.zero_le _, Nat.zero_le _⟩ rfl (fun H locs hP hD hS => ?_)
  have hP : va_P D vwCl (W_o_t_m_k_o2_t2_m2_k2 cI cM a_o a_t a_t_supertypes a_m a_m_type a_m_name a_m_arity a_m_keys a_m_defaults a_k a_k_staticType a_k_dynamicType a_k_target a_k_argumentCounts a_k_temporaryCounts a_k_keys a_k_kinds a_k_values a_k_temporaryKinds a_k_newKinds a_k_newValues a_o2 a_t2 a_t2_supertypes a_m2 a_m2_type a_m2_name a_m2_arity a_m2_keys a_m2_defaults a_k2 a_k2_staticType a_k2_dynamicType a_k2_target a_k2_argumentCounts a_k2_temporaryCounts a_k2_keys a_k2_kinds a_k2_values a_k2_temporaryKinds a_k2_newKinds a_k2_newValues g1 g2 g3 g4 g5 g6 g7 g8 g9 k_count k_frozenSet k_staticType k_dynamicType k_target k_argumentCounts k_temporaryCounts k_keys k_kinds k_values k_temporaryKinds k_newKinds k_newValues t2_count t2_interfaceSet t2_supertypes m2_count m2_type m2_name m2_arity m2_keys m2_defaults k2_count k2_frozenSet k2_staticType k2_dynamicType k2_target k2_argumentCounts k2_temporaryCounts k2_keys k2_kinds k2_values k2_temporaryKinds k2_newKinds k2_newValues) H := hP
  have hD : va_D _ (W_o_t_m_k_o2_t2_m2_k2 cI cM a_o a_t a_t_supertypes a_m a_m_type a_m_name a_m_arity a_m_keys a_m_defaults a_k a_k_staticType a_k_dynamicType a_k_target a_k_argumentCounts a_k_temporaryCounts a_k_keys a_k_kinds a_k_values a_k_temporaryKinds a_k_newKinds a_k_newValues a_o2 a_t2 a_t2_supertypes a_m2 a_m2_type a_m2_name a_m2_arity a_m2_keys a_m2_defaults a_k2 a_k2_staticType a_k2_dynamicType a_k2_target a_k2_argumentCounts a_k2_temporaryCounts a_k2_keys a_k2_kinds a_k2_values a_k2_temporaryKinds a_k2_newKinds a_k2_newValues g1 g2 g3 g4 g5 g6 g7 g8 g9 k_count k_frozenSet k_staticType k_dynamicType k_target k_argumentCounts k_temporaryCounts k_keys k_kinds k_values k_temporaryKinds k_newKinds k_newValues t2_count t2_interfaceSet t2_supertypes m2_count m2_type m2_name m2_arity m2_keys m2_defaults k2_count k2_frozenSet k2_staticType k2_dynamicType k2_target k2_argumentCounts k2_temporaryCounts k2_keys k2_kinds k2_values k2_temporaryKinds k2_newKinds k2_newValues) := hD
  refine lv_aload_n hx hb dX6_copyFrom_22 rfl (lv_at hl 0 rfl) ?_
  refine va_get (D := D) (ci := 6) (v := .ref a_k) (C := RX6) (T := TX6) (N := 3) hx hb hts hinX6 hown hKK.1 hP 0 rfl rfl 2 (by decide) lk28 (fun _ h9 => h9) rfl dX6_copyFrom_23 ?_
  refine lv_aload_n hx hb dX6_copyFrom_26 rfl (lv_at hl 1 rfl) ?_
  refine va_get (D := D) (ci := 6) (v := .ref a_k2) (C := RX6) (T := TX6) (N := 3) hx hb hts hinX6 hown hKK.1 hP 21 rfl rfl 2 (by decide) lk28 (fun _ h9 => h9) rfl dX6_copyFrom_27 ?_
  obtain ⟨g10, g11, g12, g13, g14, g15, g16, g17, g18, g19, g20, eg10, h⟩ := bn11_some h
  refine kVI (As := [.ref a_k2]) (rest := []) (st1 := []) SS hKK (qX0_copyFrom l D cI cM a_k a_k_staticType a_k_dynamicType a_k_target a_k_argumentCounts a_k_temporaryCounts a_k_keys a_k_kinds a_k_values a_k_temporaryKinds a_k_newKinds a_k_newValues a_k2 a_k2_staticType a_k2_dynamicType a_k2_target a_k2_argumentCounts a_k2_temporaryCounts a_k2_keys a_k2_kinds a_k2_values a_k2_temporaryKinds a_k2_newKinds a_k2_newValues k_count k_frozenSet k_staticType k_dynamicType k_target k_argumentCounts k_temporaryCounts k_keys k_kinds k_values k_temporaryKinds k_newKinds k_newValues k2_count k2_frozenSet k2_staticType k2_dynamicType k2_target k2_argumentCounts k2_temporaryCounts k2_keys k2_kinds k2_values k2_temporaryKinds k2_newKinds k2_newValues g10 g11 g12 g13 g14 g15 g16 g17 g18 g19 g20 eg10) cw39 hP hD hS [9, 10, 11, 12, 13, 14, 15, 16, 17, 18, 19, 20, 30, 31, 32, 33, 34, 35, 36, 37, 38, 39, 40, 41] rfl rfl rfl rfl 0 0 rfl rfl rfl hl.1 rfl (Nat.le_of_ble_eq_true rfl) dX6_copyFrom_30 ⟨Nat.zero_le _, Nat.zero_le _⟩ rfl (fun H locs hP hD hS => ?_)
  have hP : va_P D vwCl (W_o_t_m_k_o2_t2_m2_k2 cI cM a_o a_t a_t_supertypes a_m a_m_type a_m_name a_m_arity a_m_keys a_m_defaults a_k a_k_staticType a_k_dynamicType a_k_target a_k_argumentCounts a_k_temporaryCounts a_k_keys a_k_kinds a_k_values a_k_temporaryKinds a_k_newKinds a_k_newValues a_o2 a_t2 a_t2_supertypes a_m2 a_m2_type a_m2_name a_m2_arity a_m2_keys a_m2_defaults a_k2 a_k2_staticType a_k2_dynamicType a_k2_target a_k2_argumentCounts a_k2_temporaryCounts a_k2_keys a_k2_kinds a_k2_values a_k2_temporaryKinds a_k2_newKinds a_k2_newValues g1 g2 g3 g4 g5 g6 g7 g8 g9 g10 g11 g12 g13 g14 g15 g16 g17 g18 g19 g20 k_newKinds k_newValues t2_count t2_interfaceSet t2_supertypes m2_count m2_type m2_name m2_arity m2_keys m2_defaults k2_count k2_frozenSet k2_staticType k2_dynamicType k2_target k2_argumentCounts k2_temporaryCounts k2_keys k2_kinds k2_values k2_temporaryKinds k2_newKinds k2_newValues) H := hP
  have hD : va_D _ (W_o_t_m_k_o2_t2_m2_k2 cI cM a_o a_t a_t_supertypes a_m a_m_type a_m_name a_m_arity a_m_keys a_m_defaults a_k a_k_staticType a_k_dynamicType a_k_target a_k_argumentCounts a_k_temporaryCounts a_k_keys a_k_kinds a_k_values a_k_temporaryKinds a_k_newKinds a_k_newValues a_o2 a_t2 a_t2_supertypes a_m2 a_m2_type a_m2_name a_m2_arity a_m2_keys a_m2_defaults a_k2 a_k2_staticType a_k2_dynamicType a_k2_target a_k2_argumentCounts a_k2_temporaryCounts a_k2_keys a_k2_kinds a_k2_values a_k2_temporaryKinds a_k2_newKinds a_k2_newValues g1 g2 g3 g4 g5 g6 g7 g8 g9 g10 g11 g12 g13 g14 g15 g16 g17 g18 g19 g20 k_newKinds k_newValues t2_count t2_interfaceSet t2_supertypes m2_count m2_type m2_name m2_arity m2_keys m2_defaults k2_count k2_frozenSet k2_staticType k2_dynamicType k2_target k2_argumentCounts k2_temporaryCounts k2_keys k2_kinds k2_values k2_temporaryKinds k2_newKinds k2_newValues) := hD
  simp only [Option.some.injEq, Prod.mk.injEq] at h
  obtain ⟨e0, e1, e2, e3, e4, e5, e6, e7, e8, e9, e10, e11, e12, e13, e14, e15, e16, e17, e18, e19⟩ := h
  exact kRetV hx hb hr hlk (by rw [← hw1, ← e0, ← e1, ← e2, ← e3, ← e4, ← e5, ← e6, ← e7, ← e8, ← e9, ← e10, ← e11, ← e12, ← e13, ← e14, ← e15, ← e16, ← e17, ← e18, ← e19]; exact hP) hS dX6_copyFrom_33
theorem hW_fst (cI cM : ClassId) (ad : Nat → Nat → Nat) (hs hs' : Nat → MS) : (hW cI cM ad hs').map (·.1) = (hW cI cM ad hs).map (·.1) := by
  unfold hW
  rw [List.map_flatMap, List.map_flatMap]
  rfl
theorem hW_addr {cI cM : ClassId} {ad : Nat → Nat → Nat} {hs hs' : Nat → MS} {E E1 : va_W} (h : E1.map (·.1) = E.map (·.1)) : (E1 ++ hW cI cM ad hs').map (·.1) = (E ++ hW cI cM ad hs).map (·.1) := by
  rw [List.map_append, List.map_append, h, hW_fst cI cM ad hs hs']
theorem permT {E Ec Er T : va_W} (h : E.Perm (Ec ++ Er)) : (E ++ T).Perm ((Ec ++ T) ++ Er) := by
  refine (h.append_right T).trans ?_
  rw [List.append_assoc, List.append_assoc]
  exact List.perm_append_comm.append_left Ec
theorem permT2 {E Ec Er T : va_W} (h : E.Perm (Ec ++ Er)) : ((Ec ++ T) ++ Er).Perm (E ++ T) := (permT h).symm
/-- the other saved models -/
def hR (cI cM : ClassId) (i : Nat) (ad : Nat → Nat → Nat) (hs : Nat → MS) : va_W := ((List.range 8).filter (fun k => !(k == i))).flatMap fun k => mW cI cM (ad k) (hs k)
theorem hW_perm (cI cM : ClassId) {i : Nat} (hi : i < 8) (ad : Nat → Nat → Nat) (hs : Nat → MS) : (hW cI cM ad hs).Perm (mW cI cM (ad i) (hs i) ++ hR cI cM i ad hs) := by
  have h : (List.range 8).Perm (i :: (List.range 8).filter (fun k => !(k == i))) := by
    rcases (by omega : i = 0 ∨ i = 1 ∨ i = 2 ∨ i = 3 ∨ i = 4 ∨ i = 5 ∨ i = 6 ∨ i = 7) with h | h | h | h | h | h | h | h <;> subst h <;> decide
  exact h.flatMap_right _
theorem hR_up (cI cM : ClassId) (i : Nat) (ad : Nat → Nat → Nat) (hs hs' : Nat → MS) (h : ∀ k, k ≠ i → hs' k = hs k) : hR cI cM i ad hs' = hR cI cM i ad hs := by
  unfold hR
  rw [List.flatMap_def, List.flatMap_def]
  refine congrArg List.flatten (List.map_congr_left (fun k hk => ?_))
  have := (List.mem_filter.mp hk).2
  rw [h k (by simpa using this)]
theorem perm4 {Wh Wo B R T : va_W} (h : T.Perm (B ++ R)) : ((Wh ++ Wo) ++ T).Perm ((B ++ Wo) ++ (Wh ++ R)) := by
  refine (h.append_left (Wh ++ Wo)).trans ?_
  have h1 : ((Wh ++ Wo) ++ (B ++ R)).Perm ((B ++ R) ++ (Wh ++ Wo)) := List.perm_append_comm
  refine h1.trans ?_
  rw [List.append_assoc, List.append_assoc]
  refine List.Perm.append_left B ?_
  have h2 : (R ++ (Wh ++ Wo)).Perm ((Wh ++ Wo) ++ R) := List.perm_append_comm
  refine h2.trans ?_
  have h3 : (Wh ++ Wo).Perm (Wo ++ Wh) := List.perm_append_comm
  refine (h3.append_right R).trans ?_
  rw [List.append_assoc]
theorem perm5 {Wh Wo B R T : va_W} (h : T.Perm (B ++ R)) : ((Wh ++ Wo) ++ T).Perm ((Wo ++ B) ++ (Wh ++ R)) :=
  (perm4 h).trans ((List.perm_append_comm (l₁ := B) (l₂ := Wo)).append_right _)
abbrev rmX3_remember : Room := { frames := 4, cells := 0, slots := 0, locals := 81 }
abbrev rmX3_goBack : Room := { frames := 4, cells := 0, slots := 0, locals := 81 }
set_option maxHeartbeats 16000000 in
set_option maxRecDepth 100000 in
theorem qX3_remember (l : Launch) (D : va_G) (cI cM : ClassId) (a_h a_h_saved a_o a_t a_t_supertypes a_m a_m_type a_m_name a_m_arity a_m_keys a_m_defaults a_k a_k_staticType a_k_dynamicType a_k_target a_k_argumentCounts a_k_temporaryCounts a_k_keys a_k_kinds a_k_values a_k_temporaryKinds a_k_newKinds a_k_newValues : Nat) (a_h_ad : Nat → Nat → Nat) (h_count h_next : Int32) (t_count : Int32) (t_interfaceSet : Int32) (t_supertypes : Nat → Int32) (m_count : Int32) (m_type : Nat → Int32) (m_name : Nat → Int32) (m_arity : Nat → Int32) (m_keys : Nat → Int32) (m_defaults : Nat → Int32) (k_count : Int32) (k_frozenSet : Int32) (k_staticType : Nat → Int32) (k_dynamicType : Nat → Int32) (k_target : Nat → Int32) (k_argumentCounts : Nat → Int32) (k_temporaryCounts : Nat → Int32) (k_keys : Nat → Int32) (k_kinds : Nat → Int32) (k_values : Nat → Int32) (k_temporaryKinds : Nat → Int32) (k_newKinds : Nat → Int32) (k_newValues : Nat → Int32) (h_hs : Nat → MS) (r_h_count r_h_next : Int32) (r_h_hs : Nat → MS) (h : fX3_remember h_count h_next h_hs t_count t_interfaceSet t_supertypes m_count m_type m_name m_arity m_keys m_defaults k_count k_frozenSet k_staticType k_dynamicType k_target k_argumentCounts k_temporaryCounts k_keys k_kinds k_values k_temporaryKinds k_newKinds k_newValues = some (r_h_count, r_h_next, r_h_hs)) : IM l yX3_remember wsX3_remember rmX3_remember D cI cM [.ref a_h, .ref a_o] (W_h_o_t_m_k cI cM a_h a_h_saved a_o a_t a_t_supertypes a_m a_m_type a_m_name a_m_arity a_m_keys a_m_defaults a_k a_k_staticType a_k_dynamicType a_k_target a_k_argumentCounts a_k_temporaryCounts a_k_keys a_k_kinds a_k_values a_k_temporaryKinds a_k_newKinds a_k_newValues a_h_ad h_count h_next t_count t_interfaceSet t_supertypes m_count m_type m_name m_arity m_keys m_defaults k_count k_frozenSet k_staticType k_dynamicType k_target k_argumentCounts k_temporaryCounts k_keys k_kinds k_values k_temporaryKinds k_newKinds k_newValues ++ hW cI cM a_h_ad h_hs) (W_h_o_t_m_k cI cM a_h a_h_saved a_o a_t a_t_supertypes a_m a_m_type a_m_name a_m_arity a_m_keys a_m_defaults a_k a_k_staticType a_k_dynamicType a_k_target a_k_argumentCounts a_k_temporaryCounts a_k_keys a_k_kinds a_k_values a_k_temporaryKinds a_k_newKinds a_k_newValues a_h_ad r_h_count r_h_next t_count t_interfaceSet t_supertypes m_count m_type m_name m_arity m_keys m_defaults k_count k_frozenSet k_staticType k_dynamicType k_target k_argumentCounts k_temporaryCounts k_keys k_kinds k_values k_temporaryKinds k_newKinds k_newValues ++ hW cI cM a_h_ad r_h_hs) none := by
  refine IM.of (cc := cX3_remember) (maxL := 2) (ret := none) (by decide) rfl (Nat.le_of_ble_eq_true rfl) ?_
  intro p e s m below meth c ls hx hb hr hml hown hts hlk hKK hP hD hS hl
  have hown : s.vm.findClass RX3 = some m.cls := hown
  have hl : lv_has ls 2 [(0, .ref a_h), (1, .ref a_o)] := hl
  generalize hav : ([.ref a_h, .ref a_o] : List Value) = av at hts ⊢
  generalize hw0 : W_h_o_t_m_k cI cM a_h a_h_saved a_o a_t a_t_supertypes a_m a_m_type a_m_name a_m_arity a_m_keys a_m_defaults a_k a_k_staticType a_k_dynamicType a_k_target a_k_argumentCounts a_k_temporaryCounts a_k_keys a_k_kinds a_k_values a_k_temporaryKinds a_k_newKinds a_k_newValues a_h_ad h_count h_next t_count t_interfaceSet t_supertypes m_count m_type m_name m_arity m_keys m_defaults k_count k_frozenSet k_staticType k_dynamicType k_target k_argumentCounts k_temporaryCounts k_keys k_kinds k_values k_temporaryKinds k_newKinds k_newValues ++ hW cI cM a_h_ad h_hs = w0 at hD hS ⊢
  have hP : va_P D vwCl (W_h_o_t_m_k cI cM a_h a_h_saved a_o a_t a_t_supertypes a_m a_m_type a_m_name a_m_arity a_m_keys a_m_defaults a_k a_k_staticType a_k_dynamicType a_k_target a_k_argumentCounts a_k_temporaryCounts a_k_keys a_k_kinds a_k_values a_k_temporaryKinds a_k_newKinds a_k_newValues a_h_ad h_count h_next t_count t_interfaceSet t_supertypes m_count m_type m_name m_arity m_keys m_defaults k_count k_frozenSet k_staticType k_dynamicType k_target k_argumentCounts k_temporaryCounts k_keys k_kinds k_values k_temporaryKinds k_newKinds k_newValues ++ hW cI cM a_h_ad h_hs) s.heap := hP
  have hD : va_D (fun q => q ∈ w0.map (·.1)) (W_h_o_t_m_k cI cM a_h a_h_saved a_o a_t a_t_supertypes a_m a_m_type a_m_name a_m_arity a_m_keys a_m_defaults a_k a_k_staticType a_k_dynamicType a_k_target a_k_argumentCounts a_k_temporaryCounts a_k_keys a_k_kinds a_k_values a_k_temporaryKinds a_k_newKinds a_k_newValues a_h_ad h_count h_next t_count t_interfaceSet t_supertypes m_count m_type m_name m_arity m_keys m_defaults k_count k_frozenSet k_staticType k_dynamicType k_target k_argumentCounts k_temporaryCounts k_keys k_kinds k_values k_temporaryKinds k_newKinds k_newValues ++ hW cI cM a_h_ad h_hs) := by rw [hw0]; exact hD
  unfold fX3_remember at h
  split at h
  case isFalse => cases h
  rename_i hin
  simp only [Option.some.injEq, Prod.mk.injEq] at h
  obtain ⟨e0, e1, e2⟩ := h
  have hin := inb_in hin
  obtain ⟨i, hi, hni⟩ := vp_in_of hin (by decide)
  have hcl : h_next.toNatClampNeg = i := by rw [hni]; exact nI_clamp (by omega)
  have SS : CallFix p m c cX3_remember 2 s av.toArray wsX3_remember RX3 := ⟨hx, hb, hml, hown, hts⟩
  have hinX3 : ∀ w ∈ u_ws RX3 TX3 3, w ∈ wsX3_remember := by decide +kernel
  have lk11 := hts (.fieldLink RX3 11 "SignatureChanger$History" "saved" "[LSignatureChanger$Model;") (List.mem_of_getElem? (i := 1) rfl)
  have lk18 := hts (.fieldLink RX3 18 "SignatureChanger$History" "next" "I") (List.mem_of_getElem? (i := 2) rfl)
  have lk26 := hts (.fieldLink RX3 26 "SignatureChanger$History" "count" "I") (List.mem_of_getElem? (i := 3) rfl)
  have cw22 : CallW rmX3_remember s av.toArray RX3 RX6 22 yX6_copyFrom cX6_copyFrom 2 none wsX6_copyFrom rmX6_copyFrom 0 0 1 := cwV 1 hts gX3_remember_X6_copyFrom rfl rfl rfl (by decide +kernel) ⟨Nat.le_of_ble_eq_true rfl, Nat.le_of_ble_eq_true rfl⟩
  refine lv_aload_n hx hb dX3_remember_0 rfl (lv_at hl 0 rfl) ?_
  refine va_get (D := D) (ci := 3) (v := .ref a_h_saved) (C := RX3) (T := TX3) (N := 3) hx hb hts hinX3 hown hKK.1 hP 0 rfl rfl 2 (by decide) lk11 (fun _ h9 => h9) rfl dX3_remember_1 ?_
  refine lv_aload_n hx hb dX3_remember_4 rfl (lv_at hl 0 rfl) ?_
  refine va_get (D := D) (ci := 3) (v := .int h_next) (C := RX3) (T := TX3) (N := 3) hx hb hts hinX3 hown hKK.1 hP 0 rfl rfl 1 (by decide) lk18 (fun _ h9 => h9) rfl dX3_remember_5 ?_
  refine va_aldq (C := RX6) hx hb hKK.1 hP 1 1 rfl rfl hin dX3_remember_8 ?_
  rw [hcl]
  refine lv_aload_n hx hb dX3_remember_9 rfl (lv_at hl 1 rfl) ?_
  have hup : ∀ k, k ≠ i → (fun k => if k = i then (t_count, t_interfaceSet, t_supertypes, m_count, m_type, m_name, m_arity, m_keys, m_defaults, k_count, k_frozenSet, k_staticType, k_dynamicType, k_target, k_argumentCounts, k_temporaryCounts, k_keys, k_kinds, k_values, k_temporaryKinds, (h_hs k).2.2.2.2.2.2.2.2.2.2.2.2.2.2.2.2.2.2.2.2.1, (h_hs k).2.2.2.2.2.2.2.2.2.2.2.2.2.2.2.2.2.2.2.2.2) else h_hs k) k = h_hs k := fun k hk => if_neg hk
  have hat : (fun k => if k = i then (t_count, t_interfaceSet, t_supertypes, m_count, m_type, m_name, m_arity, m_keys, m_defaults, k_count, k_frozenSet, k_staticType, k_dynamicType, k_target, k_argumentCounts, k_temporaryCounts, k_keys, k_kinds, k_values, k_temporaryKinds, (h_hs k).2.2.2.2.2.2.2.2.2.2.2.2.2.2.2.2.2.2.2.2.1, (h_hs k).2.2.2.2.2.2.2.2.2.2.2.2.2.2.2.2.2.2.2.2.2) else h_hs k) i = (t_count, t_interfaceSet, t_supertypes, m_count, m_type, m_name, m_arity, m_keys, m_defaults, k_count, k_frozenSet, k_staticType, k_dynamicType, k_target, k_argumentCounts, k_temporaryCounts, k_keys, k_kinds, k_values, k_temporaryKinds, (h_hs i).2.2.2.2.2.2.2.2.2.2.2.2.2.2.2.2.2.2.2.2.1, (h_hs i).2.2.2.2.2.2.2.2.2.2.2.2.2.2.2.2.2.2.2.2.2) := if_pos rfl
  refine kVP (As := [.ref a_o]) (rest := []) (st1 := []) (ws' := W_h_o_t_m_k cI cM a_h a_h_saved a_o a_t a_t_supertypes a_m a_m_type a_m_name a_m_arity a_m_keys a_m_defaults a_k a_k_staticType a_k_dynamicType a_k_target a_k_argumentCounts a_k_temporaryCounts a_k_keys a_k_kinds a_k_values a_k_temporaryKinds a_k_newKinds a_k_newValues a_h_ad h_count h_next t_count t_interfaceSet t_supertypes m_count m_type m_name m_arity m_keys m_defaults k_count k_frozenSet k_staticType k_dynamicType k_target k_argumentCounts k_temporaryCounts k_keys k_kinds k_values k_temporaryKinds k_newKinds k_newValues ++ hW cI cM a_h_ad (fun k => if k = i then (t_count, t_interfaceSet, t_supertypes, m_count, m_type, m_name, m_arity, m_keys, m_defaults, k_count, k_frozenSet, k_staticType, k_dynamicType, k_target, k_argumentCounts, k_temporaryCounts, k_keys, k_kinds, k_values, k_temporaryKinds, (h_hs k).2.2.2.2.2.2.2.2.2.2.2.2.2.2.2.2.2.2.2.2.1, (h_hs k).2.2.2.2.2.2.2.2.2.2.2.2.2.2.2.2.2.2.2.2.2) else h_hs k)) (wr := [(a_h, .inr (3, [.int h_count, .int h_next, .ref a_h_saved])), (a_h_saved, .inl (cM, 8, .inr (.inr (.inr (.inr (fun k => some (a_h_ad k 0)))))))] ++ hR cI cM i a_h_ad h_hs) SS hKK (qX6_copyFrom l D cI cM (a_h_ad i 0) (a_h_ad i 1) (a_h_ad i 2) (a_h_ad i 3) (a_h_ad i 4) (a_h_ad i 5) (a_h_ad i 6) (a_h_ad i 7) (a_h_ad i 8) (a_h_ad i 9) (a_h_ad i 10) (a_h_ad i 11) (a_h_ad i 12) (a_h_ad i 13) (a_h_ad i 14) (a_h_ad i 15) (a_h_ad i 16) (a_h_ad i 17) (a_h_ad i 18) (a_h_ad i 19) (a_h_ad i 20) a_o a_t a_t_supertypes a_m a_m_type a_m_name a_m_arity a_m_keys a_m_defaults a_k a_k_staticType a_k_dynamicType a_k_target a_k_argumentCounts a_k_temporaryCounts a_k_keys a_k_kinds a_k_values a_k_temporaryKinds a_k_newKinds a_k_newValues ((h_hs i).1) ((h_hs i).2.1) ((h_hs i).2.2.1) ((h_hs i).2.2.2.1) ((h_hs i).2.2.2.2.1) ((h_hs i).2.2.2.2.2.1) ((h_hs i).2.2.2.2.2.2.1) ((h_hs i).2.2.2.2.2.2.2.1) ((h_hs i).2.2.2.2.2.2.2.2.1) ((h_hs i).2.2.2.2.2.2.2.2.2.1) ((h_hs i).2.2.2.2.2.2.2.2.2.2.1) ((h_hs i).2.2.2.2.2.2.2.2.2.2.2.1) ((h_hs i).2.2.2.2.2.2.2.2.2.2.2.2.1) ((h_hs i).2.2.2.2.2.2.2.2.2.2.2.2.2.1) ((h_hs i).2.2.2.2.2.2.2.2.2.2.2.2.2.2.1) ((h_hs i).2.2.2.2.2.2.2.2.2.2.2.2.2.2.2.1) ((h_hs i).2.2.2.2.2.2.2.2.2.2.2.2.2.2.2.2.1) ((h_hs i).2.2.2.2.2.2.2.2.2.2.2.2.2.2.2.2.2.1) ((h_hs i).2.2.2.2.2.2.2.2.2.2.2.2.2.2.2.2.2.2.1) ((h_hs i).2.2.2.2.2.2.2.2.2.2.2.2.2.2.2.2.2.2.2.1) ((h_hs i).2.2.2.2.2.2.2.2.2.2.2.2.2.2.2.2.2.2.2.2.1) ((h_hs i).2.2.2.2.2.2.2.2.2.2.2.2.2.2.2.2.2.2.2.2.2) t_count t_interfaceSet t_supertypes m_count m_type m_name m_arity m_keys m_defaults k_count k_frozenSet k_staticType k_dynamicType k_target k_argumentCounts k_temporaryCounts k_keys k_kinds k_values k_temporaryKinds k_newKinds k_newValues t_count t_interfaceSet t_supertypes m_count m_type m_name m_arity m_keys m_defaults k_count k_frozenSet k_staticType k_dynamicType k_target k_argumentCounts k_temporaryCounts k_keys k_kinds k_values k_temporaryKinds rfl) cw22 hP hD hS (perm4 (Wh := [(a_h, .inr (3, [.int h_count, .int h_next, .ref a_h_saved])), (a_h_saved, .inl (cM, 8, .inr (.inr (.inr (.inr (fun k => some (a_h_ad k 0)))))))]) (Wo := W_o_t_m_k cI cM a_o a_t a_t_supertypes a_m a_m_type a_m_name a_m_arity a_m_keys a_m_defaults a_k a_k_staticType a_k_dynamicType a_k_target a_k_argumentCounts a_k_temporaryCounts a_k_keys a_k_kinds a_k_values a_k_temporaryKinds a_k_newKinds a_k_newValues t_count t_interfaceSet t_supertypes m_count m_type m_name m_arity m_keys m_defaults k_count k_frozenSet k_staticType k_dynamicType k_target k_argumentCounts k_temporaryCounts k_keys k_kinds k_values k_temporaryKinds k_newKinds k_newValues) (hW_perm cI cM hi a_h_ad h_hs)) ?_ rfl 0 6 rfl rfl rfl hl.1 rfl (Nat.le_of_ble_eq_true rfl) dX3_remember_10 ⟨Nat.zero_le _, Nat.zero_le _⟩ rfl (fun H locs hP hD hS => ?_)
  · have h1 := hW_perm cI cM hi a_h_ad (fun k => if k = i then (t_count, t_interfaceSet, t_supertypes, m_count, m_type, m_name, m_arity, m_keys, m_defaults, k_count, k_frozenSet, k_staticType, k_dynamicType, k_target, k_argumentCounts, k_temporaryCounts, k_keys, k_kinds, k_values, k_temporaryKinds, (h_hs k).2.2.2.2.2.2.2.2.2.2.2.2.2.2.2.2.2.2.2.2.1, (h_hs k).2.2.2.2.2.2.2.2.2.2.2.2.2.2.2.2.2.2.2.2.2) else h_hs k)
    rw [hat, hR_up cI cM i a_h_ad h_hs _ hup] at h1
    exact (perm4 (Wh := [(a_h, .inr (3, [.int h_count, .int h_next, .ref a_h_saved])), (a_h_saved, .inl (cM, 8, .inr (.inr (.inr (.inr (fun k => some (a_h_ad k 0)))))))]) (Wo := W_o_t_m_k cI cM a_o a_t a_t_supertypes a_m a_m_type a_m_name a_m_arity a_m_keys a_m_defaults a_k a_k_staticType a_k_dynamicType a_k_target a_k_argumentCounts a_k_temporaryCounts a_k_keys a_k_kinds a_k_values a_k_temporaryKinds a_k_newKinds a_k_newValues t_count t_interfaceSet t_supertypes m_count m_type m_name m_arity m_keys m_defaults k_count k_frozenSet k_staticType k_dynamicType k_target k_argumentCounts k_temporaryCounts k_keys k_kinds k_values k_temporaryKinds k_newKinds k_newValues) h1).symm
  refine lv_aload_n hx hb dX3_remember_13 rfl (lv_at hl 0 rfl) ?_
  refine lv_aload_n hx hb dX3_remember_14 rfl (lv_at hl 0 rfl) ?_
  refine va_get (D := D) (ci := 3) (v := .int h_next) (C := RX3) (T := TX3) (N := 3) hx hb hts hinX3 hown hKK.1 hP 0 rfl rfl 1 (by decide) lk18 (fun _ h9 => h9) rfl dX3_remember_15 ?_
  refine lv_iconst (v := 1) hx hb dX3_remember_18 (by decide) ?_
  refine lv_iadd hx hb dX3_remember_19 ?_
  refine lv_bipush (v := 8) hx hb dX3_remember_20 (by decide) ?_
  refine lv_irem hx hb dX3_remember_22 (by decide) ?_
  refine va_put (D := D) (ci := 3) (v := .int ((h_next + 1) - (h_next + 1) / 8 * 8)) (ty := .int) (C := RX3) (T := TX3) (N := 3) hx hb hts hinX3 tyX3 tyX3_ok nmX3 hown hKK.1 hP hD hS 0 rfl rfl 1 (by decide) lk18 (fun _ h9 => h9) rfl (by decide +kernel) rfl rfl (Nat.le_of_ble_eq_true rfl) dX3_remember_23 (fun H locs hP hD hS => ?_)
  have hP : va_P D vwCl (W_h_o_t_m_k cI cM a_h a_h_saved a_o a_t a_t_supertypes a_m a_m_type a_m_name a_m_arity a_m_keys a_m_defaults a_k a_k_staticType a_k_dynamicType a_k_target a_k_argumentCounts a_k_temporaryCounts a_k_keys a_k_kinds a_k_values a_k_temporaryKinds a_k_newKinds a_k_newValues a_h_ad h_count ((h_next + 1) - (h_next + 1) / 8 * 8) t_count t_interfaceSet t_supertypes m_count m_type m_name m_arity m_keys m_defaults k_count k_frozenSet k_staticType k_dynamicType k_target k_argumentCounts k_temporaryCounts k_keys k_kinds k_values k_temporaryKinds k_newKinds k_newValues ++ hW cI cM a_h_ad (fun k => if k = i then (t_count, t_interfaceSet, t_supertypes, m_count, m_type, m_name, m_arity, m_keys, m_defaults, k_count, k_frozenSet, k_staticType, k_dynamicType, k_target, k_argumentCounts, k_temporaryCounts, k_keys, k_kinds, k_values, k_temporaryKinds, (h_hs k).2.2.2.2.2.2.2.2.2.2.2.2.2.2.2.2.2.2.2.2.1, (h_hs k).2.2.2.2.2.2.2.2.2.2.2.2.2.2.2.2.2.2.2.2.2) else h_hs k)) H := hP
  have hD : va_D _ (W_h_o_t_m_k cI cM a_h a_h_saved a_o a_t a_t_supertypes a_m a_m_type a_m_name a_m_arity a_m_keys a_m_defaults a_k a_k_staticType a_k_dynamicType a_k_target a_k_argumentCounts a_k_temporaryCounts a_k_keys a_k_kinds a_k_values a_k_temporaryKinds a_k_newKinds a_k_newValues a_h_ad h_count ((h_next + 1) - (h_next + 1) / 8 * 8) t_count t_interfaceSet t_supertypes m_count m_type m_name m_arity m_keys m_defaults k_count k_frozenSet k_staticType k_dynamicType k_target k_argumentCounts k_temporaryCounts k_keys k_kinds k_values k_temporaryKinds k_newKinds k_newValues ++ hW cI cM a_h_ad (fun k => if k = i then (t_count, t_interfaceSet, t_supertypes, m_count, m_type, m_name, m_arity, m_keys, m_defaults, k_count, k_frozenSet, k_staticType, k_dynamicType, k_target, k_argumentCounts, k_temporaryCounts, k_keys, k_kinds, k_values, k_temporaryKinds, (h_hs k).2.2.2.2.2.2.2.2.2.2.2.2.2.2.2.2.2.2.2.2.1, (h_hs k).2.2.2.2.2.2.2.2.2.2.2.2.2.2.2.2.2.2.2.2.2) else h_hs k)) := hD
  refine lv_aload_n hx hb dX3_remember_26 rfl (lv_at hl 0 rfl) ?_
  refine lv_aload_n hx hb dX3_remember_27 rfl (lv_at hl 0 rfl) ?_
  refine va_get (D := D) (ci := 3) (v := .int h_count) (C := RX3) (T := TX3) (N := 3) hx hb hts hinX3 hown hKK.1 hP 0 rfl rfl 0 (by decide) lk26 (fun _ h9 => h9) rfl dX3_remember_28 ?_
  refine lv_iconst (v := 1) hx hb dX3_remember_31 (by decide) ?_
  refine lv_iadd hx hb dX3_remember_32 ?_
  refine lv_bipush (v := 8) hx hb dX3_remember_33 (by decide) ?_
  refine va_mmin hx hb (hml.trans hl.1.symm) hown (hts (.methodLink RX3 29 Lib.Math.min.name) (List.mem_of_getElem? (i := 4) rfl)) (hts (.static Lib.Math.min.name) (List.mem_of_getElem? (i := 5) rfl)) (hts (.initialized "java/lang/Math") (List.mem_of_getElem? (i := 6) rfl)) (hts (.code Lib.Math.min.name Lib.Math.min.code 2 (some .int)) (List.mem_of_getElem? (i := 7) rfl)) (Nat.le_of_ble_eq_true rfl) (Nat.le_of_ble_eq_true rfl) (Nat.zero_le _) (Nat.zero_le _) dX3_remember_35 ?_
  refine va_put (D := D) (ci := 3) (v := .int (if (8 : Int32) < h_count + 1 then 8 else h_count + 1)) (ty := .int) (C := RX3) (T := TX3) (N := 3) hx hb hts hinX3 tyX3 tyX3_ok nmX3 hown hKK.1 hP hD hS 0 rfl rfl 0 (by decide) lk26 (fun _ h9 => h9) rfl (by decide +kernel) rfl rfl (Nat.le_of_ble_eq_true rfl) dX3_remember_38 (fun H locs hP hD hS => ?_)
  have hP : va_P D vwCl (W_h_o_t_m_k cI cM a_h a_h_saved a_o a_t a_t_supertypes a_m a_m_type a_m_name a_m_arity a_m_keys a_m_defaults a_k a_k_staticType a_k_dynamicType a_k_target a_k_argumentCounts a_k_temporaryCounts a_k_keys a_k_kinds a_k_values a_k_temporaryKinds a_k_newKinds a_k_newValues a_h_ad (if (8 : Int32) < h_count + 1 then 8 else h_count + 1) ((h_next + 1) - (h_next + 1) / 8 * 8) t_count t_interfaceSet t_supertypes m_count m_type m_name m_arity m_keys m_defaults k_count k_frozenSet k_staticType k_dynamicType k_target k_argumentCounts k_temporaryCounts k_keys k_kinds k_values k_temporaryKinds k_newKinds k_newValues ++ hW cI cM a_h_ad (fun k => if k = i then (t_count, t_interfaceSet, t_supertypes, m_count, m_type, m_name, m_arity, m_keys, m_defaults, k_count, k_frozenSet, k_staticType, k_dynamicType, k_target, k_argumentCounts, k_temporaryCounts, k_keys, k_kinds, k_values, k_temporaryKinds, (h_hs k).2.2.2.2.2.2.2.2.2.2.2.2.2.2.2.2.2.2.2.2.1, (h_hs k).2.2.2.2.2.2.2.2.2.2.2.2.2.2.2.2.2.2.2.2.2) else h_hs k)) H := hP
  have hD : va_D _ (W_h_o_t_m_k cI cM a_h a_h_saved a_o a_t a_t_supertypes a_m a_m_type a_m_name a_m_arity a_m_keys a_m_defaults a_k a_k_staticType a_k_dynamicType a_k_target a_k_argumentCounts a_k_temporaryCounts a_k_keys a_k_kinds a_k_values a_k_temporaryKinds a_k_newKinds a_k_newValues a_h_ad (if (8 : Int32) < h_count + 1 then 8 else h_count + 1) ((h_next + 1) - (h_next + 1) / 8 * 8) t_count t_interfaceSet t_supertypes m_count m_type m_name m_arity m_keys m_defaults k_count k_frozenSet k_staticType k_dynamicType k_target k_argumentCounts k_temporaryCounts k_keys k_kinds k_values k_temporaryKinds k_newKinds k_newValues ++ hW cI cM a_h_ad (fun k => if k = i then (t_count, t_interfaceSet, t_supertypes, m_count, m_type, m_name, m_arity, m_keys, m_defaults, k_count, k_frozenSet, k_staticType, k_dynamicType, k_target, k_argumentCounts, k_temporaryCounts, k_keys, k_kinds, k_values, k_temporaryKinds, (h_hs k).2.2.2.2.2.2.2.2.2.2.2.2.2.2.2.2.2.2.2.2.1, (h_hs k).2.2.2.2.2.2.2.2.2.2.2.2.2.2.2.2.2.2.2.2.2) else h_hs k)) := hD
  rw [hcl] at e2
  exact kRetV hx hb hr hlk (by rw [← e0, ← e1, ← e2]; exact hP) hS dX3_remember_41

set_option maxHeartbeats 16000000 in
set_option maxRecDepth 100000 in
theorem qX3_goBack (l : Launch) (D : va_G) (cI cM : ClassId) (a_h a_h_saved a_o a_t a_t_supertypes a_m a_m_type a_m_name a_m_arity a_m_keys a_m_defaults a_k a_k_staticType a_k_dynamicType a_k_target a_k_argumentCounts a_k_temporaryCounts a_k_keys a_k_kinds a_k_values a_k_temporaryKinds a_k_newKinds a_k_newValues : Nat) (a_h_ad : Nat → Nat → Nat) (h_count h_next : Int32) (t_count : Int32) (t_interfaceSet : Int32) (t_supertypes : Nat → Int32) (m_count : Int32) (m_type : Nat → Int32) (m_name : Nat → Int32) (m_arity : Nat → Int32) (m_keys : Nat → Int32) (m_defaults : Nat → Int32) (k_count : Int32) (k_frozenSet : Int32) (k_staticType : Nat → Int32) (k_dynamicType : Nat → Int32) (k_target : Nat → Int32) (k_argumentCounts : Nat → Int32) (k_temporaryCounts : Nat → Int32) (k_keys : Nat → Int32) (k_kinds : Nat → Int32) (k_values : Nat → Int32) (k_temporaryKinds : Nat → Int32) (k_newKinds : Nat → Int32) (k_newValues : Nat → Int32) (h_hs : Nat → MS) (r r_h_count r_h_next : Int32) (r_t_count : Int32) (r_t_interfaceSet : Int32) (r_t_supertypes : Nat → Int32) (r_m_count : Int32) (r_m_type : Nat → Int32) (r_m_name : Nat → Int32) (r_m_arity : Nat → Int32) (r_m_keys : Nat → Int32) (r_m_defaults : Nat → Int32) (r_k_count : Int32) (r_k_frozenSet : Int32) (r_k_staticType : Nat → Int32) (r_k_dynamicType : Nat → Int32) (r_k_target : Nat → Int32) (r_k_argumentCounts : Nat → Int32) (r_k_temporaryCounts : Nat → Int32) (r_k_keys : Nat → Int32) (r_k_kinds : Nat → Int32) (r_k_values : Nat → Int32) (r_k_temporaryKinds : Nat → Int32) (h : fX3_goBack h_count h_next h_hs t_count t_interfaceSet t_supertypes m_count m_type m_name m_arity m_keys m_defaults k_count k_frozenSet k_staticType k_dynamicType k_target k_argumentCounts k_temporaryCounts k_keys k_kinds k_values k_temporaryKinds k_newKinds k_newValues = some (r, r_h_count, r_h_next, r_t_count, r_t_interfaceSet, r_t_supertypes, r_m_count, r_m_type, r_m_name, r_m_arity, r_m_keys, r_m_defaults, r_k_count, r_k_frozenSet, r_k_staticType, r_k_dynamicType, r_k_target, r_k_argumentCounts, r_k_temporaryCounts, r_k_keys, r_k_kinds, r_k_values, r_k_temporaryKinds)) : IM l yX3_goBack wsX3_goBack rmX3_goBack D cI cM [.ref a_h, .ref a_o] (W_h_o_t_m_k cI cM a_h a_h_saved a_o a_t a_t_supertypes a_m a_m_type a_m_name a_m_arity a_m_keys a_m_defaults a_k a_k_staticType a_k_dynamicType a_k_target a_k_argumentCounts a_k_temporaryCounts a_k_keys a_k_kinds a_k_values a_k_temporaryKinds a_k_newKinds a_k_newValues a_h_ad h_count h_next t_count t_interfaceSet t_supertypes m_count m_type m_name m_arity m_keys m_defaults k_count k_frozenSet k_staticType k_dynamicType k_target k_argumentCounts k_temporaryCounts k_keys k_kinds k_values k_temporaryKinds k_newKinds k_newValues ++ hW cI cM a_h_ad h_hs) (W_h_o_t_m_k cI cM a_h a_h_saved a_o a_t a_t_supertypes a_m a_m_type a_m_name a_m_arity a_m_keys a_m_defaults a_k a_k_staticType a_k_dynamicType a_k_target a_k_argumentCounts a_k_temporaryCounts a_k_keys a_k_kinds a_k_values a_k_temporaryKinds a_k_newKinds a_k_newValues a_h_ad r_h_count r_h_next r_t_count r_t_interfaceSet r_t_supertypes r_m_count r_m_type r_m_name r_m_arity r_m_keys r_m_defaults r_k_count r_k_frozenSet r_k_staticType r_k_dynamicType r_k_target r_k_argumentCounts r_k_temporaryCounts r_k_keys r_k_kinds r_k_values r_k_temporaryKinds k_newKinds k_newValues ++ hW cI cM a_h_ad h_hs) (some (.int r)) := by
  refine IM.of (cc := cX3_goBack) (maxL := 2) (ret := (some .int)) (by decide) rfl (Nat.le_of_ble_eq_true rfl) ?_
  intro p e s m below meth c ls hx hb hr hml hown hts hlk hKK hP hD hS hl
  have hown : s.vm.findClass RX3 = some m.cls := hown
  have hl : lv_has ls 2 [(0, .ref a_h), (1, .ref a_o)] := hl
  generalize hav : ([.ref a_h, .ref a_o] : List Value) = av at hts ⊢
  generalize hw1 : W_h_o_t_m_k cI cM a_h a_h_saved a_o a_t a_t_supertypes a_m a_m_type a_m_name a_m_arity a_m_keys a_m_defaults a_k a_k_staticType a_k_dynamicType a_k_target a_k_argumentCounts a_k_temporaryCounts a_k_keys a_k_kinds a_k_values a_k_temporaryKinds a_k_newKinds a_k_newValues a_h_ad r_h_count r_h_next r_t_count r_t_interfaceSet r_t_supertypes r_m_count r_m_type r_m_name r_m_arity r_m_keys r_m_defaults r_k_count r_k_frozenSet r_k_staticType r_k_dynamicType r_k_target r_k_argumentCounts r_k_temporaryCounts r_k_keys r_k_kinds r_k_values r_k_temporaryKinds k_newKinds k_newValues ++ hW cI cM a_h_ad h_hs = w1
  generalize hw0 : W_h_o_t_m_k cI cM a_h a_h_saved a_o a_t a_t_supertypes a_m a_m_type a_m_name a_m_arity a_m_keys a_m_defaults a_k a_k_staticType a_k_dynamicType a_k_target a_k_argumentCounts a_k_temporaryCounts a_k_keys a_k_kinds a_k_values a_k_temporaryKinds a_k_newKinds a_k_newValues a_h_ad h_count h_next t_count t_interfaceSet t_supertypes m_count m_type m_name m_arity m_keys m_defaults k_count k_frozenSet k_staticType k_dynamicType k_target k_argumentCounts k_temporaryCounts k_keys k_kinds k_values k_temporaryKinds k_newKinds k_newValues ++ hW cI cM a_h_ad h_hs = w0 at hD hS ⊢
  have hP : va_P D vwCl (W_h_o_t_m_k cI cM a_h a_h_saved a_o a_t a_t_supertypes a_m a_m_type a_m_name a_m_arity a_m_keys a_m_defaults a_k a_k_staticType a_k_dynamicType a_k_target a_k_argumentCounts a_k_temporaryCounts a_k_keys a_k_kinds a_k_values a_k_temporaryKinds a_k_newKinds a_k_newValues a_h_ad h_count h_next t_count t_interfaceSet t_supertypes m_count m_type m_name m_arity m_keys m_defaults k_count k_frozenSet k_staticType k_dynamicType k_target k_argumentCounts k_temporaryCounts k_keys k_kinds k_values k_temporaryKinds k_newKinds k_newValues ++ hW cI cM a_h_ad h_hs) s.heap := hP
  have hD : va_D (fun q => q ∈ w0.map (·.1)) (W_h_o_t_m_k cI cM a_h a_h_saved a_o a_t a_t_supertypes a_m a_m_type a_m_name a_m_arity a_m_keys a_m_defaults a_k a_k_staticType a_k_dynamicType a_k_target a_k_argumentCounts a_k_temporaryCounts a_k_keys a_k_kinds a_k_values a_k_temporaryKinds a_k_newKinds a_k_newValues a_h_ad h_count h_next t_count t_interfaceSet t_supertypes m_count m_type m_name m_arity m_keys m_defaults k_count k_frozenSet k_staticType k_dynamicType k_target k_argumentCounts k_temporaryCounts k_keys k_kinds k_values k_temporaryKinds k_newKinds k_newValues ++ hW cI cM a_h_ad h_hs) := by rw [hw0]; exact hD
  unfold fX3_goBack at h
  split at h
  case isFalse => cases h
  rename_i hin
  generalize hnx : ((h_next + 8 - 1) - (h_next + 8 - 1) / 8 * 8) = nx at h hin
  simp only [Option.some.injEq, Prod.mk.injEq] at h
  obtain ⟨e0, e1, e2, e3, e4, e5, e6, e7, e8, e9, e10, e11, e12, e13, e14, e15, e16, e17, e18, e19, e20, e21, e22⟩ := h
  have hin := inb_in hin
  obtain ⟨i, hi, hni⟩ := vp_in_of hin (by decide)
  have hcl : nx.toNatClampNeg = i := by rw [hni]; exact nI_clamp (by omega)
  rw [hcl] at e3 e4 e5 e6 e7 e8 e9 e10 e11 e12 e13 e14 e15 e16 e17 e18 e19 e20 e21 e22
  have SS : CallFix p m c cX3_goBack 2 s av.toArray wsX3_goBack RX3 := ⟨hx, hb, hml, hown, hts⟩
  have hinX3 : ∀ w ∈ u_ws RX3 TX3 3, w ∈ wsX3_goBack := by decide +kernel
  have lk11 := hts (.fieldLink RX3 11 "SignatureChanger$History" "saved" "[LSignatureChanger$Model;") (List.mem_of_getElem? (i := 2) rfl)
  have lk18 := hts (.fieldLink RX3 18 "SignatureChanger$History" "next" "I") (List.mem_of_getElem? (i := 1) rfl)
  have lk26 := hts (.fieldLink RX3 26 "SignatureChanger$History" "count" "I") (List.mem_of_getElem? (i := 3) rfl)
  have cw22 : CallW rmX3_goBack s av.toArray RX3 RX6 22 yX6_copyFrom cX6_copyFrom 2 none wsX6_copyFrom rmX6_copyFrom 0 0 1 := cwV 1 hts gX3_goBack_X6_copyFrom rfl rfl rfl (by decide +kernel) ⟨Nat.le_of_ble_eq_true rfl, Nat.le_of_ble_eq_true rfl⟩
  refine lv_aload_n hx hb dX3_goBack_0 rfl (lv_at hl 0 rfl) ?_
  refine lv_aload_n hx hb dX3_goBack_1 rfl (lv_at hl 0 rfl) ?_
  refine va_get (D := D) (ci := 3) (v := .int h_next) (C := RX3) (T := TX3) (N := 3) hx hb hts hinX3 hown hKK.1 hP 0 rfl rfl 1 (by decide) lk18 (fun _ h9 => h9) rfl dX3_goBack_2 ?_
  refine lv_bipush (v := 8) hx hb dX3_goBack_5 (by decide) ?_
  refine lv_iadd hx hb dX3_goBack_7 ?_
  refine lv_iconst (v := 1) hx hb dX3_goBack_8 (by decide) ?_
  refine lv_isub hx hb dX3_goBack_9 ?_
  refine lv_bipush (v := 8) hx hb dX3_goBack_10 (by decide) ?_
  refine lv_irem hx hb dX3_goBack_12 (by decide) ?_
  refine kNm hnx ?_
  refine va_put (D := D) (ci := 3) (v := .int nx) (ty := .int) (C := RX3) (T := TX3) (N := 3) hx hb hts hinX3 tyX3 tyX3_ok nmX3 hown hKK.1 hP hD hS 0 rfl rfl 1 (by decide) lk18 (fun _ h9 => h9) rfl (by decide +kernel) rfl rfl (Nat.le_of_ble_eq_true rfl) dX3_goBack_13 (fun H locs hP hD hS => ?_)
  have hP : va_P D vwCl (W_h_o_t_m_k cI cM a_h a_h_saved a_o a_t a_t_supertypes a_m a_m_type a_m_name a_m_arity a_m_keys a_m_defaults a_k a_k_staticType a_k_dynamicType a_k_target a_k_argumentCounts a_k_temporaryCounts a_k_keys a_k_kinds a_k_values a_k_temporaryKinds a_k_newKinds a_k_newValues a_h_ad h_count nx t_count t_interfaceSet t_supertypes m_count m_type m_name m_arity m_keys m_defaults k_count k_frozenSet k_staticType k_dynamicType k_target k_argumentCounts k_temporaryCounts k_keys k_kinds k_values k_temporaryKinds k_newKinds k_newValues ++ hW cI cM a_h_ad h_hs) H := hP
  have hD : va_D _ (W_h_o_t_m_k cI cM a_h a_h_saved a_o a_t a_t_supertypes a_m a_m_type a_m_name a_m_arity a_m_keys a_m_defaults a_k a_k_staticType a_k_dynamicType a_k_target a_k_argumentCounts a_k_temporaryCounts a_k_keys a_k_kinds a_k_values a_k_temporaryKinds a_k_newKinds a_k_newValues a_h_ad h_count nx t_count t_interfaceSet t_supertypes m_count m_type m_name m_arity m_keys m_defaults k_count k_frozenSet k_staticType k_dynamicType k_target k_argumentCounts k_temporaryCounts k_keys k_kinds k_values k_temporaryKinds k_newKinds k_newValues ++ hW cI cM a_h_ad h_hs) := hD
  refine lv_aload_n hx hb dX3_goBack_16 rfl (lv_at hl 1 rfl) ?_
  refine lv_aload_n hx hb dX3_goBack_17 rfl (lv_at hl 0 rfl) ?_
  refine va_get (D := D) (ci := 3) (v := .ref a_h_saved) (C := RX3) (T := TX3) (N := 3) hx hb hts hinX3 hown hKK.1 hP 0 rfl rfl 2 (by decide) lk11 (fun _ h9 => h9) rfl dX3_goBack_18 ?_
  refine lv_aload_n hx hb dX3_goBack_21 rfl (lv_at hl 0 rfl) ?_
  refine va_get (D := D) (ci := 3) (v := .int nx) (C := RX3) (T := TX3) (N := 3) hx hb hts hinX3 hown hKK.1 hP 0 rfl rfl 1 (by decide) lk18 (fun _ h9 => h9) rfl dX3_goBack_22 ?_
  refine va_aldq (C := RX6) hx hb hKK.1 hP 1 1 rfl rfl hin dX3_goBack_25 ?_
  rw [hcl]
  refine kVP (As := [.ref (a_h_ad i 0)]) (rest := []) (st1 := []) (ws' := W_h_o_t_m_k cI cM a_h a_h_saved a_o a_t a_t_supertypes a_m a_m_type a_m_name a_m_arity a_m_keys a_m_defaults a_k a_k_staticType a_k_dynamicType a_k_target a_k_argumentCounts a_k_temporaryCounts a_k_keys a_k_kinds a_k_values a_k_temporaryKinds a_k_newKinds a_k_newValues a_h_ad h_count nx ((h_hs i).1) ((h_hs i).2.1) ((h_hs i).2.2.1) ((h_hs i).2.2.2.1) ((h_hs i).2.2.2.2.1) ((h_hs i).2.2.2.2.2.1) ((h_hs i).2.2.2.2.2.2.1) ((h_hs i).2.2.2.2.2.2.2.1) ((h_hs i).2.2.2.2.2.2.2.2.1) ((h_hs i).2.2.2.2.2.2.2.2.2.1) ((h_hs i).2.2.2.2.2.2.2.2.2.2.1) ((h_hs i).2.2.2.2.2.2.2.2.2.2.2.1) ((h_hs i).2.2.2.2.2.2.2.2.2.2.2.2.1) ((h_hs i).2.2.2.2.2.2.2.2.2.2.2.2.2.1) ((h_hs i).2.2.2.2.2.2.2.2.2.2.2.2.2.2.1) ((h_hs i).2.2.2.2.2.2.2.2.2.2.2.2.2.2.2.1) ((h_hs i).2.2.2.2.2.2.2.2.2.2.2.2.2.2.2.2.1) ((h_hs i).2.2.2.2.2.2.2.2.2.2.2.2.2.2.2.2.2.1) ((h_hs i).2.2.2.2.2.2.2.2.2.2.2.2.2.2.2.2.2.2.1) ((h_hs i).2.2.2.2.2.2.2.2.2.2.2.2.2.2.2.2.2.2.2.1) k_newKinds k_newValues ++ hW cI cM a_h_ad h_hs) (wr := [(a_h, .inr (3, [.int h_count, .int nx, .ref a_h_saved])), (a_h_saved, .inl (cM, 8, .inr (.inr (.inr (.inr (fun k => some (a_h_ad k 0)))))))] ++ hR cI cM i a_h_ad h_hs) SS hKK (qX6_copyFrom l D cI cM a_o a_t a_t_supertypes a_m a_m_type a_m_name a_m_arity a_m_keys a_m_defaults a_k a_k_staticType a_k_dynamicType a_k_target a_k_argumentCounts a_k_temporaryCounts a_k_keys a_k_kinds a_k_values a_k_temporaryKinds a_k_newKinds a_k_newValues (a_h_ad i 0) (a_h_ad i 1) (a_h_ad i 2) (a_h_ad i 3) (a_h_ad i 4) (a_h_ad i 5) (a_h_ad i 6) (a_h_ad i 7) (a_h_ad i 8) (a_h_ad i 9) (a_h_ad i 10) (a_h_ad i 11) (a_h_ad i 12) (a_h_ad i 13) (a_h_ad i 14) (a_h_ad i 15) (a_h_ad i 16) (a_h_ad i 17) (a_h_ad i 18) (a_h_ad i 19) (a_h_ad i 20) t_count t_interfaceSet t_supertypes m_count m_type m_name m_arity m_keys m_defaults k_count k_frozenSet k_staticType k_dynamicType k_target k_argumentCounts k_temporaryCounts k_keys k_kinds k_values k_temporaryKinds k_newKinds k_newValues ((h_hs i).1) ((h_hs i).2.1) ((h_hs i).2.2.1) ((h_hs i).2.2.2.1) ((h_hs i).2.2.2.2.1) ((h_hs i).2.2.2.2.2.1) ((h_hs i).2.2.2.2.2.2.1) ((h_hs i).2.2.2.2.2.2.2.1) ((h_hs i).2.2.2.2.2.2.2.2.1) ((h_hs i).2.2.2.2.2.2.2.2.2.1) ((h_hs i).2.2.2.2.2.2.2.2.2.2.1) ((h_hs i).2.2.2.2.2.2.2.2.2.2.2.1) ((h_hs i).2.2.2.2.2.2.2.2.2.2.2.2.1) ((h_hs i).2.2.2.2.2.2.2.2.2.2.2.2.2.1) ((h_hs i).2.2.2.2.2.2.2.2.2.2.2.2.2.2.1) ((h_hs i).2.2.2.2.2.2.2.2.2.2.2.2.2.2.2.1) ((h_hs i).2.2.2.2.2.2.2.2.2.2.2.2.2.2.2.2.1) ((h_hs i).2.2.2.2.2.2.2.2.2.2.2.2.2.2.2.2.2.1) ((h_hs i).2.2.2.2.2.2.2.2.2.2.2.2.2.2.2.2.2.2.1) ((h_hs i).2.2.2.2.2.2.2.2.2.2.2.2.2.2.2.2.2.2.2.1) ((h_hs i).2.2.2.2.2.2.2.2.2.2.2.2.2.2.2.2.2.2.2.2.1) ((h_hs i).2.2.2.2.2.2.2.2.2.2.2.2.2.2.2.2.2.2.2.2.2) ((h_hs i).1) ((h_hs i).2.1) ((h_hs i).2.2.1) ((h_hs i).2.2.2.1) ((h_hs i).2.2.2.2.1) ((h_hs i).2.2.2.2.2.1) ((h_hs i).2.2.2.2.2.2.1) ((h_hs i).2.2.2.2.2.2.2.1) ((h_hs i).2.2.2.2.2.2.2.2.1) ((h_hs i).2.2.2.2.2.2.2.2.2.1) ((h_hs i).2.2.2.2.2.2.2.2.2.2.1) ((h_hs i).2.2.2.2.2.2.2.2.2.2.2.1) ((h_hs i).2.2.2.2.2.2.2.2.2.2.2.2.1) ((h_hs i).2.2.2.2.2.2.2.2.2.2.2.2.2.1) ((h_hs i).2.2.2.2.2.2.2.2.2.2.2.2.2.2.1) ((h_hs i).2.2.2.2.2.2.2.2.2.2.2.2.2.2.2.1) ((h_hs i).2.2.2.2.2.2.2.2.2.2.2.2.2.2.2.2.1) ((h_hs i).2.2.2.2.2.2.2.2.2.2.2.2.2.2.2.2.2.1) ((h_hs i).2.2.2.2.2.2.2.2.2.2.2.2.2.2.2.2.2.2.1) ((h_hs i).2.2.2.2.2.2.2.2.2.2.2.2.2.2.2.2.2.2.2.1) rfl) cw22 hP hD hS (perm5 (Wh := [(a_h, .inr (3, [.int h_count, .int nx, .ref a_h_saved])), (a_h_saved, .inl (cM, 8, .inr (.inr (.inr (.inr (fun k => some (a_h_ad k 0)))))))]) (Wo := W_o_t_m_k cI cM a_o a_t a_t_supertypes a_m a_m_type a_m_name a_m_arity a_m_keys a_m_defaults a_k a_k_staticType a_k_dynamicType a_k_target a_k_argumentCounts a_k_temporaryCounts a_k_keys a_k_kinds a_k_values a_k_temporaryKinds a_k_newKinds a_k_newValues t_count t_interfaceSet t_supertypes m_count m_type m_name m_arity m_keys m_defaults k_count k_frozenSet k_staticType k_dynamicType k_target k_argumentCounts k_temporaryCounts k_keys k_kinds k_values k_temporaryKinds k_newKinds k_newValues) (hW_perm cI cM hi a_h_ad h_hs)) (perm5 (Wh := [(a_h, .inr (3, [.int h_count, .int nx, .ref a_h_saved])), (a_h_saved, .inl (cM, 8, .inr (.inr (.inr (.inr (fun k => some (a_h_ad k 0)))))))]) (Wo := W_o_t_m_k cI cM a_o a_t a_t_supertypes a_m a_m_type a_m_name a_m_arity a_m_keys a_m_defaults a_k a_k_staticType a_k_dynamicType a_k_target a_k_argumentCounts a_k_temporaryCounts a_k_keys a_k_kinds a_k_values a_k_temporaryKinds a_k_newKinds a_k_newValues ((h_hs i).1) ((h_hs i).2.1) ((h_hs i).2.2.1) ((h_hs i).2.2.2.1) ((h_hs i).2.2.2.2.1) ((h_hs i).2.2.2.2.2.1) ((h_hs i).2.2.2.2.2.2.1) ((h_hs i).2.2.2.2.2.2.2.1) ((h_hs i).2.2.2.2.2.2.2.2.1) ((h_hs i).2.2.2.2.2.2.2.2.2.1) ((h_hs i).2.2.2.2.2.2.2.2.2.2.1) ((h_hs i).2.2.2.2.2.2.2.2.2.2.2.1) ((h_hs i).2.2.2.2.2.2.2.2.2.2.2.2.1) ((h_hs i).2.2.2.2.2.2.2.2.2.2.2.2.2.1) ((h_hs i).2.2.2.2.2.2.2.2.2.2.2.2.2.2.1) ((h_hs i).2.2.2.2.2.2.2.2.2.2.2.2.2.2.2.1) ((h_hs i).2.2.2.2.2.2.2.2.2.2.2.2.2.2.2.2.1) ((h_hs i).2.2.2.2.2.2.2.2.2.2.2.2.2.2.2.2.2.1) ((h_hs i).2.2.2.2.2.2.2.2.2.2.2.2.2.2.2.2.2.2.1) ((h_hs i).2.2.2.2.2.2.2.2.2.2.2.2.2.2.2.2.2.2.2.1) k_newKinds k_newValues) (hW_perm cI cM hi a_h_ad h_hs)).symm rfl 0 6 rfl rfl rfl hl.1 rfl (Nat.le_of_ble_eq_true rfl) dX3_goBack_26 ⟨Nat.zero_le _, Nat.zero_le _⟩ rfl (fun H locs hP hD hS => ?_)
  refine lv_aload_n hx hb dX3_goBack_29 rfl (lv_at hl 0 rfl) ?_
  refine lv_dup hx hb dX3_goBack_30 rfl ?_
  refine va_get (D := D) (ci := 3) (v := .int h_count) (C := RX3) (T := TX3) (N := 3) hx hb hts hinX3 hown hKK.1 hP 0 rfl rfl 0 (by decide) lk26 (fun _ h9 => h9) rfl dX3_goBack_31 ?_
  refine lv_iconst (v := 1) hx hb dX3_goBack_34 (by decide) ?_
  refine lv_isub hx hb dX3_goBack_35 ?_
  refine va_put (D := D) (ci := 3) (v := .int (h_count - 1)) (ty := .int) (C := RX3) (T := TX3) (N := 3) hx hb hts hinX3 tyX3 tyX3_ok nmX3 hown hKK.1 hP hD hS 0 rfl rfl 0 (by decide) lk26 (fun _ h9 => h9) rfl (by decide +kernel) rfl rfl (Nat.le_of_ble_eq_true rfl) dX3_goBack_36 (fun H locs hP hD hS => ?_)
  have hP : va_P D vwCl (W_h_o_t_m_k cI cM a_h a_h_saved a_o a_t a_t_supertypes a_m a_m_type a_m_name a_m_arity a_m_keys a_m_defaults a_k a_k_staticType a_k_dynamicType a_k_target a_k_argumentCounts a_k_temporaryCounts a_k_keys a_k_kinds a_k_values a_k_temporaryKinds a_k_newKinds a_k_newValues a_h_ad (h_count - 1) nx ((h_hs i).1) ((h_hs i).2.1) ((h_hs i).2.2.1) ((h_hs i).2.2.2.1) ((h_hs i).2.2.2.2.1) ((h_hs i).2.2.2.2.2.1) ((h_hs i).2.2.2.2.2.2.1) ((h_hs i).2.2.2.2.2.2.2.1) ((h_hs i).2.2.2.2.2.2.2.2.1) ((h_hs i).2.2.2.2.2.2.2.2.2.1) ((h_hs i).2.2.2.2.2.2.2.2.2.2.1) ((h_hs i).2.2.2.2.2.2.2.2.2.2.2.1) ((h_hs i).2.2.2.2.2.2.2.2.2.2.2.2.1) ((h_hs i).2.2.2.2.2.2.2.2.2.2.2.2.2.1) ((h_hs i).2.2.2.2.2.2.2.2.2.2.2.2.2.2.1) ((h_hs i).2.2.2.2.2.2.2.2.2.2.2.2.2.2.2.1) ((h_hs i).2.2.2.2.2.2.2.2.2.2.2.2.2.2.2.2.1) ((h_hs i).2.2.2.2.2.2.2.2.2.2.2.2.2.2.2.2.2.1) ((h_hs i).2.2.2.2.2.2.2.2.2.2.2.2.2.2.2.2.2.2.1) ((h_hs i).2.2.2.2.2.2.2.2.2.2.2.2.2.2.2.2.2.2.2.1) k_newKinds k_newValues ++ hW cI cM a_h_ad h_hs) H := hP
  have hD : va_D _ (W_h_o_t_m_k cI cM a_h a_h_saved a_o a_t a_t_supertypes a_m a_m_type a_m_name a_m_arity a_m_keys a_m_defaults a_k a_k_staticType a_k_dynamicType a_k_target a_k_argumentCounts a_k_temporaryCounts a_k_keys a_k_kinds a_k_values a_k_temporaryKinds a_k_newKinds a_k_newValues a_h_ad (h_count - 1) nx ((h_hs i).1) ((h_hs i).2.1) ((h_hs i).2.2.1) ((h_hs i).2.2.2.1) ((h_hs i).2.2.2.2.1) ((h_hs i).2.2.2.2.2.1) ((h_hs i).2.2.2.2.2.2.1) ((h_hs i).2.2.2.2.2.2.2.1) ((h_hs i).2.2.2.2.2.2.2.2.1) ((h_hs i).2.2.2.2.2.2.2.2.2.1) ((h_hs i).2.2.2.2.2.2.2.2.2.2.1) ((h_hs i).2.2.2.2.2.2.2.2.2.2.2.1) ((h_hs i).2.2.2.2.2.2.2.2.2.2.2.2.1) ((h_hs i).2.2.2.2.2.2.2.2.2.2.2.2.2.1) ((h_hs i).2.2.2.2.2.2.2.2.2.2.2.2.2.2.1) ((h_hs i).2.2.2.2.2.2.2.2.2.2.2.2.2.2.2.1) ((h_hs i).2.2.2.2.2.2.2.2.2.2.2.2.2.2.2.2.1) ((h_hs i).2.2.2.2.2.2.2.2.2.2.2.2.2.2.2.2.2.1) ((h_hs i).2.2.2.2.2.2.2.2.2.2.2.2.2.2.2.2.2.2.1) ((h_hs i).2.2.2.2.2.2.2.2.2.2.2.2.2.2.2.2.2.2.2.1) k_newKinds k_newValues ++ hW cI cM a_h_ad h_hs) := hD
  refine lv_aload_n hx hb dX3_goBack_39 rfl (lv_at hl 0 rfl) ?_
  refine va_get (D := D) (ci := 3) (v := .int (h_count - 1)) (C := RX3) (T := TX3) (N := 3) hx hb hts hinX3 hown hKK.1 hP 0 rfl rfl 0 (by decide) lk26 (fun _ h9 => h9) rfl dX3_goBack_40 ?_
  exact kRetI hx hb hr hlk e0 (by rw [← hw1, ← e1, ← e2, ← e3, ← e4, ← e5, ← e6, ← e7, ← e8, ← e9, ← e10, ← e11, ← e12, ← e13, ← e14, ← e15, ← e16, ← e17, ← e18, ← e19, ← e20, ← e21, ← e22]; exact hP) hS dX3_goBack_43

set_option maxHeartbeats 8000000 in
set_option maxRecDepth 100000 in
theorem qX4_look (l : Launch) (D : va_G) (cI cM : ClassId) (a_g a_g_kinds a_g_positions a_k a_k_staticType a_k_dynamicType a_k_target a_k_argumentCounts a_k_temporaryCounts a_k_keys a_k_kinds a_k_values a_k_temporaryKinds a_k_newKinds a_k_newValues a_d a_d_sources a_d_keys a_d_defaults : Nat) (g_count : Int32) (g_kept : Int32) (g_kinds : Nat → Int32) (g_positions : Nat → Int32) (k_count : Int32) (k_frozenSet : Int32) (k_staticType : Nat → Int32) (k_dynamicType : Nat → Int32) (k_target : Nat → Int32) (k_argumentCounts : Nat → Int32) (k_temporaryCounts : Nat → Int32) (k_keys : Nat → Int32) (k_kinds : Nat → Int32) (k_values : Nat → Int32) (k_temporaryKinds : Nat → Int32) (k_newKinds : Nat → Int32) (k_newValues : Nat → Int32) (d_open : Int32) (d_method : Int32) (d_family : Int32) (d_oldCount : Int32) (d_keptSet : Int32) (d_count : Int32) (d_sources : Nat → Int32) (d_keys : Nat → Int32) (d_defaults : Nat → Int32) (d_usedKeys : Int32) (x2 : Int32) (r_g_count : Int32) (r_g_kept : Int32) (r_g_kinds : Nat → Int32) (r_g_positions : Nat → Int32) (h : fX4_look g_count g_kept g_kinds g_positions k_argumentCounts k_kinds d_keptSet d_count d_sources x2 = some (r_g_count, r_g_kept, r_g_kinds, r_g_positions)) : IM l yX4_look wsX4_look rmX4_look D cI cM [.ref a_g, .ref a_k, .int x2, .ref a_d] (W_g_k_d cI cM a_g a_g_kinds a_g_positions a_k a_k_staticType a_k_dynamicType a_k_target a_k_argumentCounts a_k_temporaryCounts a_k_keys a_k_kinds a_k_values a_k_temporaryKinds a_k_newKinds a_k_newValues a_d a_d_sources a_d_keys a_d_defaults g_count g_kept g_kinds g_positions k_count k_frozenSet k_staticType k_dynamicType k_target k_argumentCounts k_temporaryCounts k_keys k_kinds k_values k_temporaryKinds k_newKinds k_newValues d_open d_method d_family d_oldCount d_keptSet d_count d_sources d_keys d_defaults d_usedKeys) (W_g_k_d cI cM a_g a_g_kinds a_g_positions a_k a_k_staticType a_k_dynamicType a_k_target a_k_argumentCounts a_k_temporaryCounts a_k_keys a_k_kinds a_k_values a_k_temporaryKinds a_k_newKinds a_k_newValues a_d a_d_sources a_d_keys a_d_defaults r_g_count r_g_kept r_g_kinds r_g_positions k_count k_frozenSet k_staticType k_dynamicType k_target k_argumentCounts k_temporaryCounts k_keys k_kinds k_values k_temporaryKinds k_newKinds k_newValues d_open d_method d_family d_oldCount d_keptSet d_count d_sources d_keys d_defaults d_usedKeys) none := by
  refine IM.of (cc := cX4_look) (maxL := 5) (ret := none) (by decide) rfl (Nat.le_of_ble_eq_true rfl) ?_
  intro p e s m below meth c ls hx hb hr hml hown hts hlk hKK hP hD hS hl
  have hown : s.vm.findClass RX4 = some m.cls := hown
  have hl : lv_has ls 5 [(0, .ref a_g), (1, .ref a_k), (2, .int x2), (3, .ref a_d)] := hl
  generalize hav : ([.ref a_g, .ref a_k, .int x2, .ref a_d] : List Value) = av at hts ⊢
  generalize hw1 : W_g_k_d cI cM a_g a_g_kinds a_g_positions a_k a_k_staticType a_k_dynamicType a_k_target a_k_argumentCounts a_k_temporaryCounts a_k_keys a_k_kinds a_k_values a_k_temporaryKinds a_k_newKinds a_k_newValues a_d a_d_sources a_d_keys a_d_defaults r_g_count r_g_kept r_g_kinds r_g_positions k_count k_frozenSet k_staticType k_dynamicType k_target k_argumentCounts k_temporaryCounts k_keys k_kinds k_values k_temporaryKinds k_newKinds k_newValues d_open d_method d_family d_oldCount d_keptSet d_count d_sources d_keys d_defaults d_usedKeys = w1
  generalize hw0 : W_g_k_d cI cM a_g a_g_kinds a_g_positions a_k a_k_staticType a_k_dynamicType a_k_target a_k_argumentCounts a_k_temporaryCounts a_k_keys a_k_kinds a_k_values a_k_temporaryKinds a_k_newKinds a_k_newValues a_d a_d_sources a_d_keys a_d_defaults g_count g_kept g_kinds g_positions k_count k_frozenSet k_staticType k_dynamicType k_target k_argumentCounts k_temporaryCounts k_keys k_kinds k_values k_temporaryKinds k_newKinds k_newValues d_open d_method d_family d_oldCount d_keptSet d_count d_sources d_keys d_defaults d_usedKeys = w0 at hD hS ⊢
  have hP : va_P D vwCl (W_g_k_d cI cM a_g a_g_kinds a_g_positions a_k a_k_staticType a_k_dynamicType a_k_target a_k_argumentCounts a_k_temporaryCounts a_k_keys a_k_kinds a_k_values a_k_temporaryKinds a_k_newKinds a_k_newValues a_d a_d_sources a_d_keys a_d_defaults g_count g_kept g_kinds g_positions k_count k_frozenSet k_staticType k_dynamicType k_target k_argumentCounts k_temporaryCounts k_keys k_kinds k_values k_temporaryKinds k_newKinds k_newValues d_open d_method d_family d_oldCount d_keptSet d_count d_sources d_keys d_defaults d_usedKeys) s.heap := hP
  have hD : va_D (fun q => q ∈ w0.map (·.1)) (W_g_k_d cI cM a_g a_g_kinds a_g_positions a_k a_k_staticType a_k_dynamicType a_k_target a_k_argumentCounts a_k_temporaryCounts a_k_keys a_k_kinds a_k_values a_k_temporaryKinds a_k_newKinds a_k_newValues a_d a_d_sources a_d_keys a_d_defaults g_count g_kept g_kinds g_positions k_count k_frozenSet k_staticType k_dynamicType k_target k_argumentCounts k_temporaryCounts k_keys k_kinds k_values k_temporaryKinds k_newKinds k_newValues d_open d_method d_family d_oldCount d_keptSet d_count d_sources d_keys d_defaults d_usedKeys) := by rw [hw0]; exact hD
  have SS : CallFix p m c cX4_look 5 s av.toArray wsX4_look RX4 := ⟨hx, hb, hml, hown, hts⟩
  have hinX0 : ∀ w ∈ u_ws RX0 TX0 13, w ∈ wsX4_look := by decide +kernel
  have hinX1 : ∀ w ∈ u_ws RX1 TX1 10, w ∈ wsX4_look := by decide +kernel
  have hinX4 : ∀ w ∈ u_ws RX4 TX4 4, w ∈ wsX4_look := by decide +kernel
  have lk9 := hts (.fieldLink RX4 9 "SignatureChanger$Hoisting" "kinds" "[I") (List.mem_of_getElem? (i := 5) rfl)
  have lk15 := hts (.fieldLink RX4 15 "SignatureChanger$Hoisting" "positions" "[I") (List.mem_of_getElem? (i := 8) rfl)
  have lk26 := hts (.fieldLink RX4 26 "SignatureChanger$Hoisting" "kept" "I") (List.mem_of_getElem? (i := 4) rfl)
  have lk42 := hts (.fieldLink RX4 42 "SignatureChanger$Calls" "argumentCounts" "[I") (List.mem_of_getElem? (i := 1) rfl)
  have lk47 := hts (.fieldLink RX4 47 "SignatureChanger$Hoisting" "count" "I") (List.mem_of_getElem? (i := 2) rfl)
  have lk50 := hts (.fieldLink RX4 50 "SignatureChanger$Draft" "keptSet" "I") (List.mem_of_getElem? (i := 3) rfl)
  have lk59 := hts (.fieldLink RX4 59 "SignatureChanger$Draft" "count" "I") (List.mem_of_getElem? (i := 6) rfl)
  have lk60 := hts (.fieldLink RX4 60 "SignatureChanger$Draft" "sources" "[I") (List.mem_of_getElem? (i := 7) rfl)
  have cw55 : CallW rmX4_look s av.toArray RX4 RX0 55 yX0_kindOf cX0_kindOf 3 (some .int) wsX0_kindOf rmX0_kindOf 0 0 2 := cwV 2 hts gX4_look_X0_kindOf rfl rfl rfl (by decide +kernel) ⟨Nat.le_of_ble_eq_true rfl, Nat.le_of_ble_eq_true rfl⟩
  have F53 : ∀ (n : Nat) (H : Heap) (locs : List Loc) (g_count : Int32) (g_kept : Int32) (g_kinds : Nat → Int32) (g_positions : Nat → Int32) (y4 : Int32), lX4_look_53 k_argumentCounts k_kinds d_keptSet d_count d_sources n g_count g_kept g_kinds g_positions y4 = some (r_g_count, r_g_kept, r_g_kinds, r_g_positions) → va_P D vwCl (W_g_k_d cI cM a_g a_g_kinds a_g_positions a_k a_k_staticType a_k_dynamicType a_k_target a_k_argumentCounts a_k_temporaryCounts a_k_keys a_k_kinds a_k_values a_k_temporaryKinds a_k_newKinds a_k_newValues a_d a_d_sources a_d_keys a_d_defaults g_count g_kept g_kinds g_positions k_count k_frozenSet k_staticType k_dynamicType k_target k_argumentCounts k_temporaryCounts k_keys k_kinds k_values k_temporaryKinds k_newKinds k_newValues d_open d_method d_family d_oldCount d_keptSet d_count d_sources d_keys d_defaults d_usedKeys) H → va_D (fun q => q ∈ (w0).map (·.1)) (W_g_k_d cI cM a_g a_g_kinds a_g_positions a_k a_k_staticType a_k_dynamicType a_k_target a_k_argumentCounts a_k_temporaryCounts a_k_keys a_k_kinds a_k_values a_k_temporaryKinds a_k_newKinds a_k_newValues a_d a_d_sources a_d_keys a_d_defaults g_count g_kept g_kinds g_positions k_count k_frozenSet k_staticType k_dynamicType k_target k_argumentCounts k_temporaryCounts k_keys k_kinds k_values k_temporaryKinds k_newKinds k_newValues d_open d_method d_family d_oldCount d_keptSet d_count d_sources d_keys d_defaults d_usedKeys) → va_S (fun q => q ∈ (w0).map (·.1)) s.heap H locs → ∀ ls : Array Slot, lv_has ls 5 [(0, .ref a_g), (3, .ref a_d), (4, .int y4)] → WI p l e rmX4_look s m av below meth c D w0 w1 none H locs 53 ls [] := by
    intro n
    induction n with
    | zero => intro H locs g_count g_kept g_kinds g_positions y4 h; exact no_some h
    | succ n ih =>
      intro H locs g_count g_kept g_kinds g_positions y4 h hP hD hS ls hl
      rw [lX4_look_53_s] at h
      refine lv_iload hx hb dX4_look_53 (lv_at hl 2 rfl) ?_
      refine lv_aload_n hx hb dX4_look_55 rfl (lv_at hl 1 rfl) ?_
      refine va_get (D := D) (ci := 1) (v := .int d_count) (C := RX1) (T := TX1) (N := 10) hx hb hts hinX1 hown hKK.1 hP 15 rfl rfl 5 (by decide) lk59 (fun _ h9 => h9) rfl dX4_look_56 ?_
      refine lv_icmp_ge (tgt := 93) hx hb dX4_look_59 (by decide) (fun c1 => ?_) (fun c1 => ?_)
      · have h := ifp h c1
        simp only [Option.some.injEq, Prod.mk.injEq] at h
        obtain ⟨e0, e1, e2, e3⟩ := h
        exact kRetV hx hb hr hlk (by rw [← hw1, ← e0, ← e1, ← e2, ← e3]; exact hP) hS dX4_look_93
      · have h := ifn h c1
        refine lv_aload_n hx hb dX4_look_62 rfl (lv_at hl 1 rfl) ?_
        refine va_get (D := D) (ci := 1) (v := .ref a_d_sources) (C := RX1) (T := TX1) (N := 10) hx hb hts hinX1 hown hKK.1 hP 15 rfl rfl 6 (by decide) lk60 (fun _ h9 => h9) rfl dX4_look_63 ?_
        refine lv_iload hx hb dX4_look_66 (lv_at hl 2 rfl) ?_
        obtain ⟨v2, iv2, ev2, h⟩ := rd_some h
        refine kAld hx hb hKK hP 16 rfl iv2 ev2 dX4_look_68 ?_
        refine lv_iconst (v := (-1)) hx hb dX4_look_69 (by decide) ?_
        refine lv_icmp_eq (tgt := 87) hx hb dX4_look_70 (by decide) (fun c3 => ?_) (fun c3 => ?_)
        · have h := ifp h c3
          refine lv_iinc (v := y4 + 1) (lv' := [(4, .int (y4 + 1)), (0, .ref a_g), (3, .ref a_d)]) hx hb dX4_look_87 hl (k := 2) rfl rfl (by decide) rfl (fun ls hl => ?_)
          refine lv_goto (tgt := 53) hx hb dX4_look_90 (by decide) ?_
          exact ih H locs g_count g_kept g_kinds g_positions (y4 + 1) h hP hD hS ls (lv_sub (l' := [(0, .ref a_g), (3, .ref a_d), (4, .int (y4 + 1))]) hl [1, 2, 0] rfl)
        · have h := ifn h c3
          refine lv_aload_n hx hb dX4_look_73 rfl (lv_at hl 0 rfl) ?_
          refine va_get (D := D) (ci := 4) (v := .ref a_g_positions) (C := RX4) (T := TX4) (N := 4) hx hb hts hinX4 hown hKK.1 hP 0 rfl rfl 3 (by decide) lk15 (fun _ h9 => h9) rfl dX4_look_74 ?_
          refine lv_aload_n hx hb dX4_look_77 rfl (lv_at hl 1 rfl) ?_
          refine va_get (D := D) (ci := 1) (v := .ref a_d_sources) (C := RX1) (T := TX1) (N := 10) hx hb hts hinX1 hown hKK.1 hP 15 rfl rfl 6 (by decide) lk60 (fun _ h9 => h9) rfl dX4_look_78 ?_
          refine lv_iload hx hb dX4_look_81 (lv_at hl 2 rfl) ?_
          obtain ⟨v4, iv4, ev4, h⟩ := rd_some h
          refine kAld hx hb hKK hP 16 rfl iv4 ev4 dX4_look_83 ?_
          refine lv_iload hx hb dX4_look_84 (lv_at hl 2 rfl) ?_
          obtain ⟨g5, ig5, eg5, h⟩ := wr_some h
          refine kAst hx hb hKK hP hD hS 2 rfl ig5 eg5 dX4_look_86 (fun H locs hP hD hS => ?_)
          have hP : va_P D vwCl (W_g_k_d cI cM a_g a_g_kinds a_g_positions a_k a_k_staticType a_k_dynamicType a_k_target a_k_argumentCounts a_k_temporaryCounts a_k_keys a_k_kinds a_k_values a_k_temporaryKinds a_k_newKinds a_k_newValues a_d a_d_sources a_d_keys a_d_defaults g_count g_kept g_kinds g5 k_count k_frozenSet k_staticType k_dynamicType k_target k_argumentCounts k_temporaryCounts k_keys k_kinds k_values k_temporaryKinds k_newKinds k_newValues d_open d_method d_family d_oldCount d_keptSet d_count d_sources d_keys d_defaults d_usedKeys) H := hP
          have hD : va_D _ (W_g_k_d cI cM a_g a_g_kinds a_g_positions a_k a_k_staticType a_k_dynamicType a_k_target a_k_argumentCounts a_k_temporaryCounts a_k_keys a_k_kinds a_k_values a_k_temporaryKinds a_k_newKinds a_k_newValues a_d a_d_sources a_d_keys a_d_defaults g_count g_kept g_kinds g5 k_count k_frozenSet k_staticType k_dynamicType k_target k_argumentCounts k_temporaryCounts k_keys k_kinds k_values k_temporaryKinds k_newKinds k_newValues d_open d_method d_family d_oldCount d_keptSet d_count d_sources d_keys d_defaults d_usedKeys) := hD
          refine lv_iinc (v := y4 + 1) (lv' := [(4, .int (y4 + 1)), (0, .ref a_g), (3, .ref a_d)]) hx hb dX4_look_87 hl (k := 2) rfl rfl (by decide) rfl (fun ls hl => ?_)
          refine lv_goto (tgt := 53) hx hb dX4_look_90 (by decide) ?_
          exact ih H locs g_count g_kept g_kinds g5 (y4 + 1) h hP hD hS ls (lv_sub (l' := [(0, .ref a_g), (3, .ref a_d), (4, .int (y4 + 1))]) hl [1, 2, 0] rfl)
  have F21 : ∀ (n : Nat) (H : Heap) (locs : List Loc) (g_count : Int32) (g_kept : Int32) (g_kinds : Nat → Int32) (g_positions : Nat → Int32) (y2 : Int32) (y4 : Int32), lX4_look_21 k_argumentCounts k_kinds d_keptSet d_count d_sources n g_count g_kept g_kinds g_positions y2 y4 = some (r_g_count, r_g_kept, r_g_kinds, r_g_positions) → va_P D vwCl (W_g_k_d cI cM a_g a_g_kinds a_g_positions a_k a_k_staticType a_k_dynamicType a_k_target a_k_argumentCounts a_k_temporaryCounts a_k_keys a_k_kinds a_k_values a_k_temporaryKinds a_k_newKinds a_k_newValues a_d a_d_sources a_d_keys a_d_defaults g_count g_kept g_kinds g_positions k_count k_frozenSet k_staticType k_dynamicType k_target k_argumentCounts k_temporaryCounts k_keys k_kinds k_values k_temporaryKinds k_newKinds k_newValues d_open d_method d_family d_oldCount d_keptSet d_count d_sources d_keys d_defaults d_usedKeys) H → va_D (fun q => q ∈ (w0).map (·.1)) (W_g_k_d cI cM a_g a_g_kinds a_g_positions a_k a_k_staticType a_k_dynamicType a_k_target a_k_argumentCounts a_k_temporaryCounts a_k_keys a_k_kinds a_k_values a_k_temporaryKinds a_k_newKinds a_k_newValues a_d a_d_sources a_d_keys a_d_defaults g_count g_kept g_kinds g_positions k_count k_frozenSet k_staticType k_dynamicType k_target k_argumentCounts k_temporaryCounts k_keys k_kinds k_values k_temporaryKinds k_newKinds k_newValues d_open d_method d_family d_oldCount d_keptSet d_count d_sources d_keys d_defaults d_usedKeys) → va_S (fun q => q ∈ (w0).map (·.1)) s.heap H locs → ∀ ls : Array Slot, lv_has ls 5 [(0, .ref a_g), (1, .ref a_k), (2, .int y2), (3, .ref a_d), (4, .int y4)] → WI p l e rmX4_look s m av below meth c D w0 w1 none H locs 21 ls [] := by
    intro n
    induction n with
    | zero => intro H locs g_count g_kept g_kinds g_positions y2 y4 h; exact no_some h
    | succ n ih =>
      intro H locs g_count g_kept g_kinds g_positions y2 y4 h hP hD hS ls hl
      rw [lX4_look_21_s] at h
      refine lv_iload hx hb dX4_look_21 (lv_at hl 4 rfl) ?_
      refine lv_aload_n hx hb dX4_look_23 rfl (lv_at hl 0 rfl) ?_
      refine va_get (D := D) (ci := 4) (v := .int g_count) (C := RX4) (T := TX4) (N := 4) hx hb hts hinX4 hown hKK.1 hP 0 rfl rfl 0 (by decide) lk47 (fun _ h9 => h9) rfl dX4_look_24 ?_
      refine lv_icmp_ge (tgt := 50) hx hb dX4_look_27 (by decide) (fun c1 => ?_) (fun c1 => ?_)
      · have h := ifp h c1
        refine lv_iconst (v := 0) hx hb dX4_look_50 (by decide) ?_
        refine lv_istore (lv' := [(4, .int 0), (0, .ref a_g), (1, .ref a_k), (2, .int y2), (3, .ref a_d)]) hx hb dX4_look_51 hl (by decide) rfl (fun ls hl => ?_)
        exact F53 5000 H locs g_count g_kept g_kinds g_positions 0 h hP hD hS ls (lv_sub (l' := [(0, .ref a_g), (3, .ref a_d), (4, .int 0)]) hl [1, 4, 0] rfl)
      · have h := ifn h c1
        refine lv_aload_n hx hb dX4_look_30 rfl (lv_at hl 0 rfl) ?_
        refine va_get (D := D) (ci := 4) (v := .ref a_g_kinds) (C := RX4) (T := TX4) (N := 4) hx hb hts hinX4 hown hKK.1 hP 0 rfl rfl 2 (by decide) lk9 (fun _ h9 => h9) rfl dX4_look_31 ?_
        refine lv_iload hx hb dX4_look_34 (lv_at hl 4 rfl) ?_
        refine lv_aload_n hx hb dX4_look_36 rfl (lv_at hl 1 rfl) ?_
        refine lv_iload_n hx hb dX4_look_37 rfl (lv_at hl 2 rfl) ?_
        refine lv_iload hx hb dX4_look_38 (lv_at hl 4 rfl) ?_
        obtain ⟨v2, ev2, h⟩ := bn_some h
        have hs3 : va_P D vwCl (W_k cI cM a_k a_k_staticType a_k_dynamicType a_k_target a_k_argumentCounts a_k_temporaryCounts a_k_keys a_k_kinds a_k_values a_k_temporaryKinds a_k_newKinds a_k_newValues k_count k_frozenSet k_staticType k_dynamicType k_target k_argumentCounts k_temporaryCounts k_keys k_kinds k_values k_temporaryKinds k_newKinds k_newValues) _ := hP.sub (ws' := W_k cI cM a_k a_k_staticType a_k_dynamicType a_k_target a_k_argumentCounts a_k_temporaryCounts a_k_keys a_k_kinds a_k_values a_k_temporaryKinds a_k_newKinds a_k_newValues k_count k_frozenSet k_staticType k_dynamicType k_target k_argumentCounts k_temporaryCounts k_keys k_kinds k_values k_temporaryKinds k_newKinds k_newValues) [3, 4, 5, 6, 7, 8, 9, 10, 11, 12, 13, 14] rfl
        refine kV (As := [.int y2, .int y4]) (rest := [.int y4, .ref a_g_kinds]) SS hKK (qX0_kindOf l D cI cM a_k a_k_staticType a_k_dynamicType a_k_target a_k_argumentCounts a_k_temporaryCounts a_k_keys a_k_kinds a_k_values a_k_temporaryKinds a_k_newKinds a_k_newValues k_count k_frozenSet k_staticType k_dynamicType k_target k_argumentCounts k_temporaryCounts k_keys k_kinds k_values k_temporaryKinds k_newKinds k_newValues y2 y4 v2 ev2) cw55 hs3 0 0 rfl rfl rfl hl.1 rfl (Nat.le_of_ble_eq_true rfl) dX4_look_40 ⟨Nat.zero_le _, Nat.zero_le _⟩ ?_
        obtain ⟨g4, ig4, eg4, h⟩ := wr_some h
        refine kAst hx hb hKK hP hD hS 1 rfl ig4 eg4 dX4_look_43 (fun H locs hP hD hS => ?_)
        have hP : va_P D vwCl (W_g_k_d cI cM a_g a_g_kinds a_g_positions a_k a_k_staticType a_k_dynamicType a_k_target a_k_argumentCounts a_k_temporaryCounts a_k_keys a_k_kinds a_k_values a_k_temporaryKinds a_k_newKinds a_k_newValues a_d a_d_sources a_d_keys a_d_defaults g_count g_kept g4 g_positions k_count k_frozenSet k_staticType k_dynamicType k_target k_argumentCounts k_temporaryCounts k_keys k_kinds k_values k_temporaryKinds k_newKinds k_newValues d_open d_method d_family d_oldCount d_keptSet d_count d_sources d_keys d_defaults d_usedKeys) H := hP
        have hD : va_D _ (W_g_k_d cI cM a_g a_g_kinds a_g_positions a_k a_k_staticType a_k_dynamicType a_k_target a_k_argumentCounts a_k_temporaryCounts a_k_keys a_k_kinds a_k_values a_k_temporaryKinds a_k_newKinds a_k_newValues a_d a_d_sources a_d_keys a_d_defaults g_count g_kept g4 g_positions k_count k_frozenSet k_staticType k_dynamicType k_target k_argumentCounts k_temporaryCounts k_keys k_kinds k_values k_temporaryKinds k_newKinds k_newValues d_open d_method d_family d_oldCount d_keptSet d_count d_sources d_keys d_defaults d_usedKeys) := hD
        refine lv_iinc (v := y4 + 1) (lv' := [(4, .int (y4 + 1)), (0, .ref a_g), (1, .ref a_k), (2, .int y2), (3, .ref a_d)]) hx hb dX4_look_44 hl (k := 4) rfl rfl (by decide) rfl (fun ls hl => ?_)
        refine lv_goto (tgt := 21) hx hb dX4_look_47 (by decide) ?_
        exact ih H locs g_count g_kept g4 g_positions y2 (y4 + 1) h hP hD hS ls (lv_sub (l' := [(0, .ref a_g), (1, .ref a_k), (2, .int y2), (3, .ref a_d), (4, .int (y4 + 1))]) hl [1, 2, 3, 4, 0] rfl)
  unfold fX4_look at h
  refine lv_aload_n hx hb dX4_look_0 rfl (lv_at hl 0 rfl) ?_
  refine lv_aload_n hx hb dX4_look_1 rfl (lv_at hl 1 rfl) ?_
  refine va_get (D := D) (ci := 0) (v := .ref a_k_argumentCounts) (C := RX0) (T := TX0) (N := 13) hx hb hts hinX0 hown hKK.1 hP 3 rfl rfl 5 (by decide) lk42 (fun _ h9 => h9) rfl dX4_look_2 ?_
  refine lv_iload_n hx hb dX4_look_5 rfl (lv_at hl 2 rfl) ?_
  obtain ⟨v1, iv1, ev1, h⟩ := rd_some h
  refine kAld hx hb hKK hP 7 rfl iv1 ev1 dX4_look_6 ?_
  refine va_put (D := D) (ci := 4) (v := .int v1) (ty := .int) (C := RX4) (T := TX4) (N := 4) hx hb hts hinX4 tyX4 tyX4_ok nmX4 hown hKK.1 hP hD hS 0 rfl rfl 0 (by decide) lk47 (fun _ h9 => h9) rfl (by decide +kernel) rfl rfl (Nat.le_of_ble_eq_true rfl) dX4_look_7 (fun H locs hP hD hS => ?_)
  have hP : va_P D vwCl (W_g_k_d cI cM a_g a_g_kinds a_g_positions a_k a_k_staticType a_k_dynamicType a_k_target a_k_argumentCounts a_k_temporaryCounts a_k_keys a_k_kinds a_k_values a_k_temporaryKinds a_k_newKinds a_k_newValues a_d a_d_sources a_d_keys a_d_defaults v1 g_kept g_kinds g_positions k_count k_frozenSet k_staticType k_dynamicType k_target k_argumentCounts k_temporaryCounts k_keys k_kinds k_values k_temporaryKinds k_newKinds k_newValues d_open d_method d_family d_oldCount d_keptSet d_count d_sources d_keys d_defaults d_usedKeys) H := hP
  have hD : va_D _ (W_g_k_d cI cM a_g a_g_kinds a_g_positions a_k a_k_staticType a_k_dynamicType a_k_target a_k_argumentCounts a_k_temporaryCounts a_k_keys a_k_kinds a_k_values a_k_temporaryKinds a_k_newKinds a_k_newValues a_d a_d_sources a_d_keys a_d_defaults v1 g_kept g_kinds g_positions k_count k_frozenSet k_staticType k_dynamicType k_target k_argumentCounts k_temporaryCounts k_keys k_kinds k_values k_temporaryKinds k_newKinds k_newValues d_open d_method d_family d_oldCount d_keptSet d_count d_sources d_keys d_defaults d_usedKeys) := hD
  refine lv_aload_n hx hb dX4_look_10 rfl (lv_at hl 0 rfl) ?_
  refine lv_aload_n hx hb dX4_look_11 rfl (lv_at hl 3 rfl) ?_
  refine va_get (D := D) (ci := 1) (v := .int d_keptSet) (C := RX1) (T := TX1) (N := 10) hx hb hts hinX1 hown hKK.1 hP 15 rfl rfl 4 (by decide) lk50 (fun _ h9 => h9) rfl dX4_look_12 ?_
  refine va_put (D := D) (ci := 4) (v := .int d_keptSet) (ty := .int) (C := RX4) (T := TX4) (N := 4) hx hb hts hinX4 tyX4 tyX4_ok nmX4 hown hKK.1 hP hD hS 0 rfl rfl 1 (by decide) lk26 (fun _ h9 => h9) rfl (by decide +kernel) rfl rfl (Nat.le_of_ble_eq_true rfl) dX4_look_15 (fun H locs hP hD hS => ?_)
  have hP : va_P D vwCl (W_g_k_d cI cM a_g a_g_kinds a_g_positions a_k a_k_staticType a_k_dynamicType a_k_target a_k_argumentCounts a_k_temporaryCounts a_k_keys a_k_kinds a_k_values a_k_temporaryKinds a_k_newKinds a_k_newValues a_d a_d_sources a_d_keys a_d_defaults v1 d_keptSet g_kinds g_positions k_count k_frozenSet k_staticType k_dynamicType k_target k_argumentCounts k_temporaryCounts k_keys k_kinds k_values k_temporaryKinds k_newKinds k_newValues d_open d_method d_family d_oldCount d_keptSet d_count d_sources d_keys d_defaults d_usedKeys) H := hP
  have hD : va_D _ (W_g_k_d cI cM a_g a_g_kinds a_g_positions a_k a_k_staticType a_k_dynamicType a_k_target a_k_argumentCounts a_k_temporaryCounts a_k_keys a_k_kinds a_k_values a_k_temporaryKinds a_k_newKinds a_k_newValues a_d a_d_sources a_d_keys a_d_defaults v1 d_keptSet g_kinds g_positions k_count k_frozenSet k_staticType k_dynamicType k_target k_argumentCounts k_temporaryCounts k_keys k_kinds k_values k_temporaryKinds k_newKinds k_newValues d_open d_method d_family d_oldCount d_keptSet d_count d_sources d_keys d_defaults d_usedKeys) := hD
  refine lv_iconst (v := 0) hx hb dX4_look_18 (by decide) ?_
  refine lv_istore (lv' := [(4, .int 0), (0, .ref a_g), (1, .ref a_k), (2, .int x2), (3, .ref a_d)]) hx hb dX4_look_19 hl (by decide) rfl (fun ls hl => ?_)
  exact F21 5000 H locs v1 d_keptSet g_kinds g_positions x2 0 h hP hD hS ls (lv_sub (l' := [(0, .ref a_g), (1, .ref a_k), (2, .int x2), (3, .ref a_d), (4, .int 0)]) hl [1, 2, 3, 4, 0] rfl)
set_option maxHeartbeats 8000000 in
set_option maxRecDepth 100000 in
theorem qX4_ofKind (l : Launch) (D : va_G) (cI cM : ClassId) (a_g a_g_kinds a_g_positions : Nat) (g_count : Int32) (g_kept : Int32) (g_kinds : Nat → Int32) (g_positions : Nat → Int32) (x1 : Int32) (r : Int32) (h : fX4_ofKind g_count g_kinds x1 = some r) : PM l yX4_ofKind wsX4_ofKind rmX4_ofKind D cI cM [.ref a_g, .int x1] (W_g cI cM a_g a_g_kinds a_g_positions g_count g_kept g_kinds g_positions) r := by
  refine PM.of (cc := cX4_ofKind) (maxL := 4) (ret := (some .int)) (by decide) rfl (Nat.le_of_ble_eq_true rfl) ?_
  intro p e s m below meth c ls hx hb hr hml hown hts hlk hP hKK hl
  have hown : s.vm.findClass RX4 = some m.cls := hown
  have hl : lv_has ls 4 [(0, .ref a_g), (1, .int x1)] := hl
  generalize hav : ([.ref a_g, .int x1] : List Value) = av at hts ⊢
  have SS : CallFix p m c cX4_ofKind 4 s av.toArray wsX4_ofKind RX4 := ⟨hx, hb, hml, hown, hts⟩
  have hinX4 : ∀ w ∈ u_ws RX4 TX4 4, w ∈ wsX4_ofKind := by decide +kernel
  have lk9 := hts (.fieldLink RX4 9 "SignatureChanger$Hoisting" "kinds" "[I") (List.mem_of_getElem? (i := 2) rfl)
  have lk47 := hts (.fieldLink RX4 47 "SignatureChanger$Hoisting" "count" "I") (List.mem_of_getElem? (i := 1) rfl)
  have cw30 : va_CN rmX4_ofKind s av.toArray RX4 30 yX8_bit RX8 cX8_bit 1 (some .int) wsX8_bit rmX8_bit 0 0 1 ∧ (Cond.static yX8_bit).before av.toArray s = true ∧ True := ⟨va_cnB 1 hts gX4_ofKind_X8_bit_n30 rfl rfl rfl (hKK.2.at 21 rfl) (hts (.initialized RX8) (List.mem_of_getElem? (i := 4) rfl)) (by decide +kernel) ⟨Nat.le_of_ble_eq_true rfl, Nat.le_of_ble_eq_true rfl⟩, hts (.static yX8_bit) (List.mem_of_getElem? (i := 3) rfl), trivial⟩
  have F4 : ∀ (n : Nat) (y1 : Int32) (y2 : Int32) (y3 : Int32), lX4_ofKind_4 g_count g_kinds n y1 y2 y3 = some r → ∀ ls : Array Slot, lv_has ls 4 [(0, .ref a_g), (1, .int y1), (2, .int y2), (3, .int y3)] → WP p l e rmX4_ofKind s m av below meth c r 4 ls [] := by
    intro n
    induction n with
    | zero => intro y1 y2 y3 h; exact no_some h
    | succ n ih =>
      intro y1 y2 y3 h ls hl
      rw [lX4_ofKind_4_s] at h
      refine lv_iload_n hx hb dX4_ofKind_4 rfl (lv_at hl 3 rfl) ?_
      refine lv_aload_n hx hb dX4_ofKind_5 rfl (lv_at hl 0 rfl) ?_
      refine va_get (D := D) (ci := 4) (v := .int g_count) (C := RX4) (T := TX4) (N := 4) hx hb hts hinX4 hown hKK.1 hP 0 rfl rfl 0 (by decide) lk47 (fun _ h9 => h9) rfl dX4_ofKind_6 ?_
      refine lv_icmp_ge (tgt := 35) hx hb dX4_ofKind_9 (by decide) (fun c1 => ?_) (fun c1 => ?_)
      · have h := ifp h c1
        refine lv_iload_n hx hb dX4_ofKind_35 rfl (lv_at hl 2 rfl) ?_
        exact kRet hx hb hr hlk (Option.some.inj h) dX4_ofKind_36
      · have h := ifn h c1
        refine lv_aload_n hx hb dX4_ofKind_12 rfl (lv_at hl 0 rfl) ?_
        refine va_get (D := D) (ci := 4) (v := .ref a_g_kinds) (C := RX4) (T := TX4) (N := 4) hx hb hts hinX4 hown hKK.1 hP 0 rfl rfl 2 (by decide) lk9 (fun _ h9 => h9) rfl dX4_ofKind_13 ?_
        refine lv_iload_n hx hb dX4_ofKind_16 rfl (lv_at hl 3 rfl) ?_
        obtain ⟨v2, iv2, ev2, h⟩ := rd_some h
        refine kAld hx hb hKK hP 1 rfl iv2 ev2 dX4_ofKind_17 ?_
        refine lv_iload_n hx hb dX4_ofKind_18 rfl (lv_at hl 1 rfl) ?_
        refine lv_icmp_ne (tgt := 29) hx hb dX4_ofKind_19 (by decide) (fun c3 => ?_) (fun c3 => ?_)
        · have h := ifn h c3
          refine lv_iinc (v := y3 + 1) (lv' := [(3, .int (y3 + 1)), (0, .ref a_g), (1, .int y1), (2, .int y2)]) hx hb dX4_ofKind_29 hl (k := 3) rfl rfl (by decide) rfl (fun ls hl => ?_)
          refine lv_goto (tgt := 4) hx hb dX4_ofKind_32 (by decide) ?_
          exact ih y1 y2 (y3 + 1) h ls (lv_sub (l' := [(0, .ref a_g), (1, .int y1), (2, .int y2), (3, .int (y3 + 1))]) hl [1, 2, 3, 0] rfl)
        · have h := ifp h c3
          refine lv_iload_n hx hb dX4_ofKind_22 rfl (lv_at hl 2 rfl) ?_
          refine lv_iload_n hx hb dX4_ofKind_23 rfl (lv_at hl 3 rfl) ?_
          obtain ⟨v4, ev4, h⟩ := bn_some h
          refine kSN (As := [.int y3]) (rest := [.int y2]) SS hKK (qX8_bit l D cI cM y3 v4 ev4) cw30 va_P_nil rfl hl.1 rfl (Nat.le_of_ble_eq_true rfl) dX4_ofKind_24 ⟨Nat.zero_le _, Nat.zero_le _⟩ ?_
          refine lv_ior hx hb dX4_ofKind_27 ?_
          refine lv_istore_n (lv' := [(2, .int (y2 ||| v4)), (0, .ref a_g), (1, .int y1), (3, .int y3)]) hx hb dX4_ofKind_28 rfl hl (by decide) rfl (fun ls hl => ?_)
          refine lv_iinc (v := y3 + 1) (lv' := [(3, .int (y3 + 1)), (2, .int (y2 ||| v4)), (0, .ref a_g), (1, .int y1)]) hx hb dX4_ofKind_29 hl (k := 3) rfl rfl (by decide) rfl (fun ls hl => ?_)
          refine lv_goto (tgt := 4) hx hb dX4_ofKind_32 (by decide) ?_
          exact ih y1 (y2 ||| v4) (y3 + 1) h ls (lv_sub (l' := [(0, .ref a_g), (1, .int y1), (2, .int (y2 ||| v4)), (3, .int (y3 + 1))]) hl [2, 3, 1, 0] rfl)
  unfold fX4_ofKind at h
  refine lv_iconst (v := 0) hx hb dX4_ofKind_0 (by decide) ?_
  refine lv_istore_n (lv' := [(2, .int 0), (0, .ref a_g), (1, .int x1)]) hx hb dX4_ofKind_1 rfl hl (by decide) rfl (fun ls hl => ?_)
  refine lv_iconst (v := 0) hx hb dX4_ofKind_2 (by decide) ?_
  refine lv_istore_n (lv' := [(3, .int 0), (2, .int 0), (0, .ref a_g), (1, .int x1)]) hx hb dX4_ofKind_3 rfl hl (by decide) rfl (fun ls hl => ?_)
  exact F4 5000 x1 0 0 h ls (lv_sub (l' := [(0, .ref a_g), (1, .int x1), (2, .int 0), (3, .int 0)]) hl [2, 3, 1, 0] rfl)
set_option maxHeartbeats 8000000 in
set_option maxRecDepth 100000 in
theorem qX8_conflict (l : Launch) (D : va_G) (cI cM : ClassId) (x0 : Int32) (x1 : Int32) (r : Int32) (h : fX8_conflict x0 x1 = some r) : PM l yX8_conflict wsX8_conflict rmX8_conflict D cI cM [.int x0, .int x1] ([]) r := by
  refine PM.of (cc := cX8_conflict) (maxL := 4) (ret := (some .boolean)) (by decide) rfl (Nat.le_of_ble_eq_true rfl) ?_
  intro p e s m below meth c ls hx hb hr hml hown hts hlk hP hKK hl
  have hown : s.vm.findClass RX8 = some m.cls := hown
  have hl : lv_has ls 4 [(0, .int x0), (1, .int x1)] := hl
  generalize hav : ([.int x0, .int x1] : List Value) = av at hts ⊢
  have SS : CallFix p m c cX8_conflict 4 s av.toArray wsX8_conflict RX8 := ⟨hx, hb, hml, hown, hts⟩
  have F31 : ∀ (y0 : Int32) (y1 : Int32) (y2 : Int32) (s0 : Int32), jX8_conflict_31  y0 y1 y2 s0 = some r → ∀ ls : Array Slot, lv_has ls 4 [(0, .int y0), (1, .int y1), (2, .int y2)] → WP p l e rmX8_conflict s m av below meth c r 31 ls [.int s0] := by
    intro y0 y1 y2 s0 h ls hl
    unfold jX8_conflict_31 at h
    refine lv_istore_n (lv' := [(3, .int s0), (0, .int y0), (1, .int y1), (2, .int y2)]) hx hb dX8_conflict_31 rfl hl (by decide) rfl (fun ls hl => ?_)
    refine lv_iload_n hx hb dX8_conflict_32 rfl (lv_at hl 3 rfl) ?_
    refine lv_if_eq (tgt := 54) hx hb dX8_conflict_33 (by decide) (fun c1 => ?_) (fun c1 => ?_)
    · have h := ifp h c1
      refine lv_iconst (v := 0) hx hb dX8_conflict_54 (by decide) ?_
      exact kRetZ hx hb hr hlk rfl (Option.some.inj h) dX8_conflict_55
    · have h := ifn h c1
      refine lv_iload_n hx hb dX8_conflict_36 rfl (lv_at hl 0 rfl) ?_
      refine lv_if_eq (tgt := 54) hx hb dX8_conflict_37 (by decide) (fun c2 => ?_) (fun c2 => ?_)
      · have h := ifp h c2
        refine lv_iconst (v := 0) hx hb dX8_conflict_54 (by decide) ?_
        exact kRetZ hx hb hr hlk rfl (Option.some.inj h) dX8_conflict_55
      · have h := ifn h c2
        refine lv_iload_n hx hb dX8_conflict_40 rfl (lv_at hl 1 rfl) ?_
        refine lv_iconst (v := 2) hx hb dX8_conflict_41 (by decide) ?_
        refine lv_icmp_eq (tgt := 50) hx hb dX8_conflict_42 (by decide) (fun c3 => ?_) (fun c3 => ?_)
        · have h := ifp h c3
          refine lv_iconst (v := 1) hx hb dX8_conflict_50 (by decide) ?_
          refine lv_goto (tgt := 55) hx hb dX8_conflict_51 (by decide) ?_
          exact kRetZ hx hb hr hlk rfl (Option.some.inj h) dX8_conflict_55
        · have h := ifn h c3
          refine lv_iload_n hx hb dX8_conflict_45 rfl (lv_at hl 2 rfl) ?_
          refine lv_iconst (v := 2) hx hb dX8_conflict_46 (by decide) ?_
          refine lv_icmp_ne (tgt := 54) hx hb dX8_conflict_47 (by decide) (fun c4 => ?_) (fun c4 => ?_)
          · have h := ifn h c4
            refine lv_iconst (v := 0) hx hb dX8_conflict_54 (by decide) ?_
            exact kRetZ hx hb hr hlk rfl (Option.some.inj h) dX8_conflict_55
          · have h := ifp h c4
            refine lv_iconst (v := 1) hx hb dX8_conflict_50 (by decide) ?_
            refine lv_goto (tgt := 55) hx hb dX8_conflict_51 (by decide) ?_
            exact kRetZ hx hb hr hlk rfl (Option.some.inj h) dX8_conflict_55
  have F26 : ∀ (y0 : Int32) (y1 : Int32) (y2 : Int32), jX8_conflict_26  y0 y1 y2 = some r → ∀ ls : Array Slot, lv_has ls 4 [(0, .int y0), (1, .int y1), (2, .int y2)] → WP p l e rmX8_conflict s m av below meth c r 26 ls [] := by
    intro y0 y1 y2 h ls hl
    unfold jX8_conflict_26 at h
    refine lv_iconst (v := 1) hx hb dX8_conflict_26 (by decide) ?_
    refine lv_goto (tgt := 31) hx hb dX8_conflict_27 (by decide) ?_
    exact F31 y0 y1 y2 1 h ls (lv_sub (l' := [(0, .int y0), (1, .int y1), (2, .int y2)]) hl [0, 1, 2] rfl)
  have F15 : ∀ (y0 : Int32) (y1 : Int32) (s0 : Int32), jX8_conflict_15  y0 y1 s0 = some r → ∀ ls : Array Slot, lv_has ls 4 [(0, .int y0), (1, .int y1)] → WP p l e rmX8_conflict s m av below meth c r 15 ls [.int s0] := by
    intro y0 y1 s0 h ls hl
    unfold jX8_conflict_15 at h
    refine lv_istore_n (lv' := [(2, .int s0), (0, .int y0), (1, .int y1)]) hx hb dX8_conflict_15 rfl hl (by decide) rfl (fun ls hl => ?_)
    refine lv_iload_n hx hb dX8_conflict_16 rfl (lv_at hl 2 rfl) ?_
    refine lv_iconst (v := 1) hx hb dX8_conflict_17 (by decide) ?_
    refine lv_icmp_eq (tgt := 26) hx hb dX8_conflict_18 (by decide) (fun c1 => ?_) (fun c1 => ?_)
    · have h := ifp h c1
      exact F26 y0 y1 s0 h ls (lv_sub (l' := [(0, .int y0), (1, .int y1), (2, .int s0)]) hl [1, 2, 0] rfl)
    · have h := ifn h c1
      refine lv_iload_n hx hb dX8_conflict_21 rfl (lv_at hl 2 rfl) ?_
      refine lv_iconst (v := 2) hx hb dX8_conflict_22 (by decide) ?_
      refine lv_icmp_ne (tgt := 30) hx hb dX8_conflict_23 (by decide) (fun c2 => ?_) (fun c2 => ?_)
      · have h := ifn h c2
        refine lv_iconst (v := 0) hx hb dX8_conflict_30 (by decide) ?_
        exact F31 y0 y1 s0 0 h ls (lv_sub (l' := [(0, .int y0), (1, .int y1), (2, .int s0)]) hl [1, 2, 0] rfl)
      · have h := ifp h c2
        exact F26 y0 y1 s0 h ls (lv_sub (l' := [(0, .int y0), (1, .int y1), (2, .int s0)]) hl [1, 2, 0] rfl)
  have F10 : ∀ (y0 : Int32) (y1 : Int32), jX8_conflict_10  y0 y1 = some r → ∀ ls : Array Slot, lv_has ls 4 [(0, .int y0), (1, .int y1)] → WP p l e rmX8_conflict s m av below meth c r 10 ls [] := by
    intro y0 y1 h ls hl
    unfold jX8_conflict_10 at h
    refine lv_iconst (v := 1) hx hb dX8_conflict_10 (by decide) ?_
    refine lv_goto (tgt := 15) hx hb dX8_conflict_11 (by decide) ?_
    exact F15 y0 y1 1 h ls (lv_sub (l' := [(0, .int y0), (1, .int y1)]) hl [0, 1] rfl)
  unfold fX8_conflict at h
  refine lv_iload_n hx hb dX8_conflict_0 rfl (lv_at hl 0 rfl) ?_
  refine lv_iconst (v := 1) hx hb dX8_conflict_1 (by decide) ?_
  refine lv_icmp_eq (tgt := 10) hx hb dX8_conflict_2 (by decide) (fun c1 => ?_) (fun c1 => ?_)
  · have h := ifp h c1
    exact F10 x0 x1 h ls (lv_sub (l' := [(0, .int x0), (1, .int x1)]) hl [0, 1] rfl)
  · have h := ifn h c1
    refine lv_iload_n hx hb dX8_conflict_5 rfl (lv_at hl 0 rfl) ?_
    refine lv_iconst (v := 2) hx hb dX8_conflict_6 (by decide) ?_
    refine lv_icmp_ne (tgt := 14) hx hb dX8_conflict_7 (by decide) (fun c2 => ?_) (fun c2 => ?_)
    · have h := ifn h c2
      refine lv_iconst (v := 0) hx hb dX8_conflict_14 (by decide) ?_
      exact F15 x0 x1 0 h ls (lv_sub (l' := [(0, .int x0), (1, .int x1)]) hl [0, 1] rfl)
    · have h := ifp h c2
      exact F10 x0 x1 h ls (lv_sub (l' := [(0, .int x0), (1, .int x1)]) hl [0, 1] rfl)
set_option maxHeartbeats 8000000 in
set_option maxRecDepth 100000 in
theorem qX4_staysEarlier (l : Launch) (D : va_G) (cI cM : ClassId) (a_g a_g_kinds a_g_positions : Nat) (g_count : Int32) (g_kept : Int32) (g_kinds : Nat → Int32) (g_positions : Nat → Int32) (x1 : Int32) (x2 : Int32) (x3 : Int32) (r : Int32) (h : fX4_staysEarlier g_positions x1 x2 x3 = some r) : PM l yX4_staysEarlier wsX4_staysEarlier rmX4_staysEarlier D cI cM [.ref a_g, .int x1, .int x2, .int x3] (W_g cI cM a_g a_g_kinds a_g_positions g_count g_kept g_kinds g_positions) r := by
  refine PM.of (cc := cX4_staysEarlier) (maxL := 4) (ret := (some .boolean)) (by decide) rfl (Nat.le_of_ble_eq_true rfl) ?_
  intro p e s m below meth c ls hx hb hr hml hown hts hlk hP hKK hl
  have hown : s.vm.findClass RX4 = some m.cls := hown
  have hl : lv_has ls 4 [(0, .ref a_g), (1, .int x1), (2, .int x2), (3, .int x3)] := hl
  generalize hav : ([.ref a_g, .int x1, .int x2, .int x3] : List Value) = av at hts ⊢
  have SS : CallFix p m c cX4_staysEarlier 4 s av.toArray wsX4_staysEarlier RX4 := ⟨hx, hb, hml, hown, hts⟩
  have hinX4 : ∀ w ∈ u_ws RX4 TX4 4, w ∈ wsX4_staysEarlier := by decide +kernel
  have lk15 := hts (.fieldLink RX4 15 "SignatureChanger$Hoisting" "positions" "[I") (List.mem_of_getElem? (i := 1) rfl)
  have cw63 : va_CN rmX4_staysEarlier s av.toArray RX4 63 yX8_contains RX8 cX8_contains 2 (some .boolean) wsX8_contains rmX8_contains 0 0 2 ∧ (Cond.static yX8_contains).before av.toArray s = true ∧ True := ⟨va_cnB 2 hts gX4_staysEarlier_X8_contains_n63 rfl rfl rfl (hKK.2.at 22 rfl) (hts (.initialized RX8) (List.mem_of_getElem? (i := 3) rfl)) (by decide +kernel) ⟨Nat.le_of_ble_eq_true rfl, Nat.le_of_ble_eq_true rfl⟩, hts (.static yX8_contains) (List.mem_of_getElem? (i := 2) rfl), trivial⟩
  unfold fX4_staysEarlier at h
  refine lv_iload_n hx hb dX4_staysEarlier_0 rfl (lv_at hl 3 rfl) ?_
  refine lv_iload_n hx hb dX4_staysEarlier_1 rfl (lv_at hl 1 rfl) ?_
  obtain ⟨v1, ev1, h⟩ := bn_some h
  refine kSN (As := [.int x3, .int x1]) (rest := []) SS hKK (qX8_contains l D cI cM x3 x1 v1 ev1) cw63 va_P_nil rfl hl.1 rfl (Nat.le_of_ble_eq_true rfl) dX4_staysEarlier_2 ⟨Nat.zero_le _, Nat.zero_le _⟩ ?_
  refine lv_if_eq (tgt := 10) hx hb dX4_staysEarlier_5 (by decide) (fun c2 => ?_) (fun c2 => ?_)
  · have h := ifp h c2
    refine lv_iload_n hx hb dX4_staysEarlier_10 rfl (lv_at hl 3 rfl) ?_
    refine lv_iload_n hx hb dX4_staysEarlier_11 rfl (lv_at hl 2 rfl) ?_
    obtain ⟨v3, ev3, h⟩ := bn_some h
    refine kSN (As := [.int x3, .int x2]) (rest := []) SS hKK (qX8_contains l D cI cM x3 x2 v3 ev3) cw63 va_P_nil rfl hl.1 rfl (Nat.le_of_ble_eq_true rfl) dX4_staysEarlier_12 ⟨Nat.zero_le _, Nat.zero_le _⟩ ?_
    refine lv_if_ne (tgt := 37) hx hb dX4_staysEarlier_15 (by decide) (fun c4 => ?_) (fun c4 => ?_)
    · have h := ifn h c4
      refine lv_iconst (v := 0) hx hb dX4_staysEarlier_37 (by decide) ?_
      exact kRetZ hx hb hr hlk rfl (Option.some.inj h) dX4_staysEarlier_38
    · have h := ifp h c4
      refine lv_aload_n hx hb dX4_staysEarlier_18 rfl (lv_at hl 0 rfl) ?_
      refine va_get (D := D) (ci := 4) (v := .ref a_g_positions) (C := RX4) (T := TX4) (N := 4) hx hb hts hinX4 hown hKK.1 hP 0 rfl rfl 3 (by decide) lk15 (fun _ h9 => h9) rfl dX4_staysEarlier_19 ?_
      refine lv_iload_n hx hb dX4_staysEarlier_22 rfl (lv_at hl 1 rfl) ?_
      obtain ⟨v5, iv5, ev5, h⟩ := rd_some h
      refine kAld hx hb hKK hP 2 rfl iv5 ev5 dX4_staysEarlier_23 ?_
      refine lv_aload_n hx hb dX4_staysEarlier_24 rfl (lv_at hl 0 rfl) ?_
      refine va_get (D := D) (ci := 4) (v := .ref a_g_positions) (C := RX4) (T := TX4) (N := 4) hx hb hts hinX4 hown hKK.1 hP 0 rfl rfl 3 (by decide) lk15 (fun _ h9 => h9) rfl dX4_staysEarlier_25 ?_
      refine lv_iload_n hx hb dX4_staysEarlier_28 rfl (lv_at hl 2 rfl) ?_
      obtain ⟨v6, iv6, ev6, h⟩ := rd_some h
      refine kAld hx hb hKK hP 2 rfl iv6 ev6 dX4_staysEarlier_29 ?_
      refine lv_icmp_ge (tgt := 37) hx hb dX4_staysEarlier_30 (by decide) (fun c7 => ?_) (fun c7 => ?_)
      · have h := ifp h c7
        refine lv_iconst (v := 0) hx hb dX4_staysEarlier_37 (by decide) ?_
        exact kRetZ hx hb hr hlk rfl (Option.some.inj h) dX4_staysEarlier_38
      · have h := ifn h c7
        refine lv_iconst (v := 1) hx hb dX4_staysEarlier_33 (by decide) ?_
        refine lv_goto (tgt := 38) hx hb dX4_staysEarlier_34 (by decide) ?_
        exact kRetZ hx hb hr hlk rfl (Option.some.inj h) dX4_staysEarlier_38
  · have h := ifn h c2
    refine lv_iconst (v := 1) hx hb dX4_staysEarlier_8 (by decide) ?_
    exact kRetZ hx hb hr hlk rfl (Option.some.inj h) dX4_staysEarlier_9
set_option maxHeartbeats 8000000 in
set_option maxRecDepth 100000 in
theorem qX4_keepsOrder (l : Launch) (D : va_G) (cI cM : ClassId) (a_g a_g_kinds a_g_positions : Nat) (g_count : Int32) (g_kept : Int32) (g_kinds : Nat → Int32) (g_positions : Nat → Int32) (x1 : Int32) (r : Int32) (h : fX4_keepsOrder g_count g_kept g_kinds g_positions x1 = some r) : PM l yX4_keepsOrder wsX4_keepsOrder rmX4_keepsOrder D cI cM [.ref a_g, .int x1] (W_g cI cM a_g a_g_kinds a_g_positions g_count g_kept g_kinds g_positions) r := by
  refine PM.of (cc := cX4_keepsOrder) (maxL := 7) (ret := (some .boolean)) (by decide) rfl (Nat.le_of_ble_eq_true rfl) ?_
  intro p e s m below meth c ls hx hb hr hml hown hts hlk hP hKK hl
  have hown : s.vm.findClass RX4 = some m.cls := hown
  have hl : lv_has ls 7 [(0, .ref a_g), (1, .int x1)] := hl
  generalize hav : ([.ref a_g, .int x1] : List Value) = av at hts ⊢
  have SS : CallFix p m c cX4_keepsOrder 7 s av.toArray wsX4_keepsOrder RX4 := ⟨hx, hb, hml, hown, hts⟩
  have hinX4 : ∀ w ∈ u_ws RX4 TX4 4, w ∈ wsX4_keepsOrder := by decide +kernel
  have lk9 := hts (.fieldLink RX4 9 "SignatureChanger$Hoisting" "kinds" "[I") (List.mem_of_getElem? (i := 3) rfl)
  have lk26 := hts (.fieldLink RX4 26 "SignatureChanger$Hoisting" "kept" "I") (List.mem_of_getElem? (i := 1) rfl)
  have lk47 := hts (.fieldLink RX4 47 "SignatureChanger$Hoisting" "count" "I") (List.mem_of_getElem? (i := 2) rfl)
  have cw63 : va_CN rmX4_keepsOrder s av.toArray RX4 63 yX8_contains RX8 cX8_contains 2 (some .boolean) wsX8_contains rmX8_contains 0 0 2 ∧ (Cond.static yX8_contains).before av.toArray s = true ∧ True := ⟨va_cnB 2 hts gX4_keepsOrder_X8_contains_n63 rfl rfl rfl (hKK.2.at 22 rfl) (hts (.initialized RX8) (List.mem_of_getElem? (i := 5) rfl)) (by decide +kernel) ⟨Nat.le_of_ble_eq_true rfl, Nat.le_of_ble_eq_true rfl⟩, hts (.static yX8_contains) (List.mem_of_getElem? (i := 4) rfl), trivial⟩
  have cw67 : va_CN rmX4_keepsOrder s av.toArray RX4 67 yX8_conflict RX8 cX8_conflict 4 (some .boolean) wsX8_conflict rmX8_conflict 0 0 2 ∧ (Cond.static yX8_conflict).before av.toArray s = true ∧ True := ⟨va_cnB 2 hts gX4_keepsOrder_X8_conflict_n67 rfl rfl rfl (hKK.2.at 23 rfl) (hts (.initialized RX8) (List.mem_of_getElem? (i := 5) rfl)) (by decide +kernel) ⟨Nat.le_of_ble_eq_true rfl, Nat.le_of_ble_eq_true rfl⟩, hts (.static yX8_conflict) (List.mem_of_getElem? (i := 7) rfl), trivial⟩
  have cw70 : CallW rmX4_keepsOrder s av.toArray RX4 RX4 70 yX4_staysEarlier cX4_staysEarlier 4 (some .boolean) wsX4_staysEarlier rmX4_staysEarlier 0 0 3 := cwV 3 hts gX4_keepsOrder_X4_staysEarlier rfl rfl rfl (by decide +kernel) ⟨Nat.le_of_ble_eq_true rfl, Nat.le_of_ble_eq_true rfl⟩
  have F79 : ∀ (k9 : Int32 → Int32 → Int32 → Option (Int32)) (k20 : Int32 → Int32 → Int32 → Int32 → Option (Int32)) (hk9 : ∀ (u1 : Int32) (u2 : Int32) (u3 : Int32), k9 u1 u2 u3 = some r → ∀ ls : Array Slot, lv_has ls 7 [(0, .ref a_g), (1, .int u1), (2, .int u2), (3, .int u3)] → WP p l e rmX4_keepsOrder s m av below meth c r 9 ls []) (hk20 : ∀ (u1 : Int32) (u2 : Int32) (u3 : Int32) (u4 : Int32), k20 u1 u2 u3 u4 = some r → ∀ ls : Array Slot, lv_has ls 7 [(0, .ref a_g), (1, .int u1), (2, .int u2), (3, .int u3), (4, .int u4)] → WP p l e rmX4_keepsOrder s m av below meth c r 20 ls []), ∀ (y1 : Int32) (y2 : Int32) (y3 : Int32) (y4 : Int32) (s0 : Int32), jX4_keepsOrder_79 g_count g_kept g_kinds g_positions k9 k20 y1 y2 y3 y4 s0 = some r → ∀ ls : Array Slot, lv_has ls 7 [(0, .ref a_g), (1, .int y1), (2, .int y2), (3, .int y3), (4, .int y4)] → WP p l e rmX4_keepsOrder s m av below meth c r 79 ls [.int s0] := by
    intro k9 k20 hk9 hk20
    intro y1 y2 y3 y4 s0 h ls hl
    unfold jX4_keepsOrder_79 at h
    refine lv_istore (lv' := [(6, .int s0), (0, .ref a_g), (1, .int y1), (2, .int y2), (3, .int y3), (4, .int y4)]) hx hb dX4_keepsOrder_79 hl (by decide) rfl (fun ls hl => ?_)
    refine lv_iload hx hb dX4_keepsOrder_81 (lv_at hl 0 rfl) ?_
    refine lv_if_eq (tgt := 99) hx hb dX4_keepsOrder_83 (by decide) (fun c1 => ?_) (fun c1 => ?_)
    · have h := ifp h c1
      refine lv_iinc (v := y4 + 1) (lv' := [(4, .int (y4 + 1)), (6, .int s0), (0, .ref a_g), (1, .int y1), (2, .int y2), (3, .int y3)]) hx hb dX4_keepsOrder_99 hl (k := 5) rfl rfl (by decide) rfl (fun ls hl => ?_)
      refine lv_goto (tgt := 20) hx hb dX4_keepsOrder_102 (by decide) ?_
      exact hk20 y1 y2 y3 (y4 + 1) h ls (lv_sub (l' := [(0, .ref a_g), (1, .int y1), (2, .int y2), (3, .int y3), (4, .int (y4 + 1))]) hl [2, 3, 4, 5, 0] rfl)
    · have h := ifn h c1
      refine lv_aload_n hx hb dX4_keepsOrder_86 rfl (lv_at hl 1 rfl) ?_
      refine lv_iload hx hb dX4_keepsOrder_87 (lv_at hl 5 rfl) ?_
      refine lv_iload_n hx hb dX4_keepsOrder_89 rfl (lv_at hl 4 rfl) ?_
      refine lv_iload_n hx hb dX4_keepsOrder_90 rfl (lv_at hl 2 rfl) ?_
      obtain ⟨v2, ev2, h⟩ := bn_some h
      have hs3 : va_P D vwCl (W_g cI cM a_g a_g_kinds a_g_positions g_count g_kept g_kinds g_positions) _ := hP.sub (ws' := W_g cI cM a_g a_g_kinds a_g_positions g_count g_kept g_kinds g_positions) [0, 1, 2] rfl
      refine kV (As := [.int y4, .int y3, .int y1]) (rest := []) SS hKK (qX4_staysEarlier l D cI cM a_g a_g_kinds a_g_positions g_count g_kept g_kinds g_positions y4 y3 y1 v2 ev2) cw70 hs3 0 4 rfl rfl rfl hl.1 rfl (Nat.le_of_ble_eq_true rfl) dX4_keepsOrder_91 ⟨Nat.zero_le _, Nat.zero_le _⟩ ?_
      refine lv_if_ne (tgt := 99) hx hb dX4_keepsOrder_94 (by decide) (fun c4 => ?_) (fun c4 => ?_)
      · have h := ifn h c4
        refine lv_iinc (v := y4 + 1) (lv' := [(4, .int (y4 + 1)), (6, .int s0), (0, .ref a_g), (1, .int y1), (2, .int y2), (3, .int y3)]) hx hb dX4_keepsOrder_99 hl (k := 5) rfl rfl (by decide) rfl (fun ls hl => ?_)
        refine lv_goto (tgt := 20) hx hb dX4_keepsOrder_102 (by decide) ?_
        exact hk20 y1 y2 y3 (y4 + 1) h ls (lv_sub (l' := [(0, .ref a_g), (1, .int y1), (2, .int y2), (3, .int y3), (4, .int (y4 + 1))]) hl [2, 3, 4, 5, 0] rfl)
      · have h := ifp h c4
        refine lv_iconst (v := 0) hx hb dX4_keepsOrder_97 (by decide) ?_
        exact kRetZ hx hb hr hlk rfl (Option.some.inj h) dX4_keepsOrder_98
  have F78 : ∀ (k9 : Int32 → Int32 → Int32 → Option (Int32)) (k20 : Int32 → Int32 → Int32 → Int32 → Option (Int32)) (hk9 : ∀ (u1 : Int32) (u2 : Int32) (u3 : Int32), k9 u1 u2 u3 = some r → ∀ ls : Array Slot, lv_has ls 7 [(0, .ref a_g), (1, .int u1), (2, .int u2), (3, .int u3)] → WP p l e rmX4_keepsOrder s m av below meth c r 9 ls []) (hk20 : ∀ (u1 : Int32) (u2 : Int32) (u3 : Int32) (u4 : Int32), k20 u1 u2 u3 u4 = some r → ∀ ls : Array Slot, lv_has ls 7 [(0, .ref a_g), (1, .int u1), (2, .int u2), (3, .int u3), (4, .int u4)] → WP p l e rmX4_keepsOrder s m av below meth c r 20 ls []), ∀ (y1 : Int32) (y2 : Int32) (y3 : Int32) (y4 : Int32), jX4_keepsOrder_78 g_count g_kept g_kinds g_positions k9 k20 y1 y2 y3 y4 = some r → ∀ ls : Array Slot, lv_has ls 7 [(0, .ref a_g), (1, .int y1), (2, .int y2), (3, .int y3), (4, .int y4)] → WP p l e rmX4_keepsOrder s m av below meth c r 78 ls [] := by
    intro k9 k20 hk9 hk20
    intro y1 y2 y3 y4 h ls hl
    unfold jX4_keepsOrder_78 at h
    refine lv_iconst (v := 0) hx hb dX4_keepsOrder_78 (by decide) ?_
    exact F79 k9 k20 hk9 hk20 y1 y2 y3 y4 0 h ls (lv_sub (l' := [(0, .ref a_g), (1, .int y1), (2, .int y2), (3, .int y3), (4, .int y4)]) hl [0, 1, 2, 3, 4] rfl)
  have F48 : ∀ (k9 : Int32 → Int32 → Int32 → Option (Int32)) (k20 : Int32 → Int32 → Int32 → Int32 → Option (Int32)) (hk9 : ∀ (u1 : Int32) (u2 : Int32) (u3 : Int32), k9 u1 u2 u3 = some r → ∀ ls : Array Slot, lv_has ls 7 [(0, .ref a_g), (1, .int u1), (2, .int u2), (3, .int u3)] → WP p l e rmX4_keepsOrder s m av below meth c r 9 ls []) (hk20 : ∀ (u1 : Int32) (u2 : Int32) (u3 : Int32) (u4 : Int32), k20 u1 u2 u3 u4 = some r → ∀ ls : Array Slot, lv_has ls 7 [(0, .ref a_g), (1, .int u1), (2, .int u2), (3, .int u3), (4, .int u4)] → WP p l e rmX4_keepsOrder s m av below meth c r 20 ls []), ∀ (y1 : Int32) (y2 : Int32) (y3 : Int32) (y4 : Int32) (s0 : Int32), jX4_keepsOrder_48 g_count g_kept g_kinds g_positions k9 k20 y1 y2 y3 y4 s0 = some r → ∀ ls : Array Slot, lv_has ls 7 [(0, .ref a_g), (1, .int y1), (2, .int y2), (3, .int y3), (4, .int y4)] → WP p l e rmX4_keepsOrder s m av below meth c r 48 ls [.int s0] := by
    intro k9 k20 hk9 hk20
    intro y1 y2 y3 y4 s0 h ls hl
    unfold jX4_keepsOrder_48 at h
    refine lv_istore (lv' := [(5, .int s0), (0, .ref a_g), (1, .int y1), (2, .int y2), (3, .int y3), (4, .int y4)]) hx hb dX4_keepsOrder_48 hl (by decide) rfl (fun ls hl => ?_)
    refine lv_iload hx hb dX4_keepsOrder_50 (lv_at hl 0 rfl) ?_
    refine lv_if_eq (tgt := 78) hx hb dX4_keepsOrder_52 (by decide) (fun c1 => ?_) (fun c1 => ?_)
    · have h := ifp h c1
      exact F78 k9 k20 hk9 hk20 y1 y2 y3 y4 h ls (lv_sub (l' := [(0, .ref a_g), (1, .int y1), (2, .int y2), (3, .int y3), (4, .int y4)]) hl [1, 2, 3, 4, 5] rfl)
    · have h := ifn h c1
      refine lv_aload_n hx hb dX4_keepsOrder_55 rfl (lv_at hl 1 rfl) ?_
      refine va_get (D := D) (ci := 4) (v := .ref a_g_kinds) (C := RX4) (T := TX4) (N := 4) hx hb hts hinX4 hown hKK.1 hP 0 rfl rfl 2 (by decide) lk9 (fun _ h9 => h9) rfl dX4_keepsOrder_56 ?_
      refine lv_iload hx hb dX4_keepsOrder_59 (lv_at hl 5 rfl) ?_
      obtain ⟨v2, iv2, ev2, h⟩ := rd_some h
      refine kAld hx hb hKK hP 1 rfl iv2 ev2 dX4_keepsOrder_61 ?_
      refine lv_aload_n hx hb dX4_keepsOrder_62 rfl (lv_at hl 1 rfl) ?_
      refine va_get (D := D) (ci := 4) (v := .ref a_g_kinds) (C := RX4) (T := TX4) (N := 4) hx hb hts hinX4 hown hKK.1 hP 0 rfl rfl 2 (by decide) lk9 (fun _ h9 => h9) rfl dX4_keepsOrder_63 ?_
      refine lv_iload_n hx hb dX4_keepsOrder_66 rfl (lv_at hl 4 rfl) ?_
      obtain ⟨v3, iv3, ev3, h⟩ := rd_some h
      refine kAld hx hb hKK hP 1 rfl iv3 ev3 dX4_keepsOrder_67 ?_
      obtain ⟨v4, ev4, h⟩ := bn_some h
      refine kSN (As := [.int v2, .int v3]) (rest := []) SS hKK (qX8_conflict l D cI cM v2 v3 v4 ev4) cw67 va_P_nil rfl hl.1 rfl (Nat.le_of_ble_eq_true rfl) dX4_keepsOrder_68 ⟨Nat.zero_le _, Nat.zero_le _⟩ ?_
      refine lv_if_eq (tgt := 78) hx hb dX4_keepsOrder_71 (by decide) (fun c5 => ?_) (fun c5 => ?_)
      · have h := ifp h c5
        exact F78 k9 k20 hk9 hk20 y1 y2 y3 y4 h ls (lv_sub (l' := [(0, .ref a_g), (1, .int y1), (2, .int y2), (3, .int y3), (4, .int y4)]) hl [1, 2, 3, 4, 5] rfl)
      · have h := ifn h c5
        refine lv_iconst (v := 1) hx hb dX4_keepsOrder_74 (by decide) ?_
        refine lv_goto (tgt := 79) hx hb dX4_keepsOrder_75 (by decide) ?_
        exact F79 k9 k20 hk9 hk20 y1 y2 y3 y4 1 h ls (lv_sub (l' := [(0, .ref a_g), (1, .int y1), (2, .int y2), (3, .int y3), (4, .int y4)]) hl [1, 2, 3, 4, 5] rfl)
  have F47 : ∀ (k9 : Int32 → Int32 → Int32 → Option (Int32)) (k20 : Int32 → Int32 → Int32 → Int32 → Option (Int32)) (hk9 : ∀ (u1 : Int32) (u2 : Int32) (u3 : Int32), k9 u1 u2 u3 = some r → ∀ ls : Array Slot, lv_has ls 7 [(0, .ref a_g), (1, .int u1), (2, .int u2), (3, .int u3)] → WP p l e rmX4_keepsOrder s m av below meth c r 9 ls []) (hk20 : ∀ (u1 : Int32) (u2 : Int32) (u3 : Int32) (u4 : Int32), k20 u1 u2 u3 u4 = some r → ∀ ls : Array Slot, lv_has ls 7 [(0, .ref a_g), (1, .int u1), (2, .int u2), (3, .int u3), (4, .int u4)] → WP p l e rmX4_keepsOrder s m av below meth c r 20 ls []), ∀ (y1 : Int32) (y2 : Int32) (y3 : Int32) (y4 : Int32), jX4_keepsOrder_47 g_count g_kept g_kinds g_positions k9 k20 y1 y2 y3 y4 = some r → ∀ ls : Array Slot, lv_has ls 7 [(0, .ref a_g), (1, .int y1), (2, .int y2), (3, .int y3), (4, .int y4)] → WP p l e rmX4_keepsOrder s m av below meth c r 47 ls [] := by
    intro k9 k20 hk9 hk20
    intro y1 y2 y3 y4 h ls hl
    unfold jX4_keepsOrder_47 at h
    refine lv_iconst (v := 0) hx hb dX4_keepsOrder_47 (by decide) ?_
    exact F48 k9 k20 hk9 hk20 y1 y2 y3 y4 0 h ls (lv_sub (l' := [(0, .ref a_g), (1, .int y1), (2, .int y2), (3, .int y3), (4, .int y4)]) hl [0, 1, 2, 3, 4] rfl)
  have F20 : ∀ (k9 : Int32 → Int32 → Int32 → Option (Int32)) (hk9 : ∀ (u1 : Int32) (u2 : Int32) (u3 : Int32), k9 u1 u2 u3 = some r → ∀ ls : Array Slot, lv_has ls 7 [(0, .ref a_g), (1, .int u1), (2, .int u2), (3, .int u3)] → WP p l e rmX4_keepsOrder s m av below meth c r 9 ls []), ∀ (n : Nat) (y1 : Int32) (y2 : Int32) (y3 : Int32) (y4 : Int32), lX4_keepsOrder_20 g_count g_kept g_kinds g_positions k9 n y1 y2 y3 y4 = some r → ∀ ls : Array Slot, lv_has ls 7 [(0, .ref a_g), (1, .int y1), (2, .int y2), (3, .int y3), (4, .int y4)] → WP p l e rmX4_keepsOrder s m av below meth c r 20 ls [] := by
    intro k9 hk9
    intro n
    induction n with
    | zero => intro y1 y2 y3 y4 h; exact no_some h
    | succ n ih =>
      intro y1 y2 y3 y4 h ls hl
      rw [lX4_keepsOrder_20_s] at h
      refine lv_iload hx hb dX4_keepsOrder_20 (lv_at hl 4 rfl) ?_
      refine lv_iload_n hx hb dX4_keepsOrder_22 rfl (lv_at hl 3 rfl) ?_
      refine lv_icmp_ge (tgt := 105) hx hb dX4_keepsOrder_23 (by decide) (fun c1 => ?_) (fun c1 => ?_)
      · have h := ifp h c1
        refine lv_iinc (v := y3 + 1) (lv' := [(3, .int (y3 + 1)), (0, .ref a_g), (1, .int y1), (2, .int y2), (4, .int y4)]) hx hb dX4_keepsOrder_105 hl (k := 3) rfl rfl (by decide) rfl (fun ls hl => ?_)
        refine lv_goto (tgt := 9) hx hb dX4_keepsOrder_108 (by decide) ?_
        exact hk9 y1 y2 (y3 + 1) h ls (lv_sub (l' := [(0, .ref a_g), (1, .int y1), (2, .int y2), (3, .int (y3 + 1))]) hl [1, 2, 3, 0] rfl)
      · have h := ifn h c1
        refine lv_iload_n hx hb dX4_keepsOrder_26 rfl (lv_at hl 2 rfl) ?_
        refine lv_iload hx hb dX4_keepsOrder_27 (lv_at hl 4 rfl) ?_
        obtain ⟨v2, ev2, h⟩ := bn_some h
        refine kSN (As := [.int y2, .int y4]) (rest := []) SS hKK (qX8_contains l D cI cM y2 y4 v2 ev2) cw63 va_P_nil rfl hl.1 rfl (Nat.le_of_ble_eq_true rfl) dX4_keepsOrder_29 ⟨Nat.zero_le _, Nat.zero_le _⟩ ?_
        refine lv_if_eq (tgt := 47) hx hb dX4_keepsOrder_32 (by decide) (fun c3 => ?_) (fun c3 => ?_)
        · have h := ifp h c3
          exact F47 k9 (fun u1 u2 u3 u4 => lX4_keepsOrder_20 g_count g_kept g_kinds g_positions k9 n u1 u2 u3 u4) hk9 (fun u1 u2 u3 u4 h ls hl => ih u1 u2 u3 u4 h ls hl) y1 y2 y3 y4 h ls (lv_sub (l' := [(0, .ref a_g), (1, .int y1), (2, .int y2), (3, .int y3), (4, .int y4)]) hl [0, 1, 2, 3, 4] rfl)
        · have h := ifn h c3
          refine lv_iload_n hx hb dX4_keepsOrder_35 rfl (lv_at hl 2 rfl) ?_
          refine lv_iload_n hx hb dX4_keepsOrder_36 rfl (lv_at hl 3 rfl) ?_
          obtain ⟨v4, ev4, h⟩ := bn_some h
          refine kSN (As := [.int y2, .int y3]) (rest := []) SS hKK (qX8_contains l D cI cM y2 y3 v4 ev4) cw63 va_P_nil rfl hl.1 rfl (Nat.le_of_ble_eq_true rfl) dX4_keepsOrder_37 ⟨Nat.zero_le _, Nat.zero_le _⟩ ?_
          refine lv_if_eq (tgt := 47) hx hb dX4_keepsOrder_40 (by decide) (fun c5 => ?_) (fun c5 => ?_)
          · have h := ifp h c5
            exact F47 k9 (fun u1 u2 u3 u4 => lX4_keepsOrder_20 g_count g_kept g_kinds g_positions k9 n u1 u2 u3 u4) hk9 (fun u1 u2 u3 u4 h ls hl => ih u1 u2 u3 u4 h ls hl) y1 y2 y3 y4 h ls (lv_sub (l' := [(0, .ref a_g), (1, .int y1), (2, .int y2), (3, .int y3), (4, .int y4)]) hl [0, 1, 2, 3, 4] rfl)
          · have h := ifn h c5
            refine lv_iconst (v := 1) hx hb dX4_keepsOrder_43 (by decide) ?_
            refine lv_goto (tgt := 48) hx hb dX4_keepsOrder_44 (by decide) ?_
            exact F48 k9 (fun u1 u2 u3 u4 => lX4_keepsOrder_20 g_count g_kept g_kinds g_positions k9 n u1 u2 u3 u4) hk9 (fun u1 u2 u3 u4 h ls hl => ih u1 u2 u3 u4 h ls hl) y1 y2 y3 y4 1 h ls (lv_sub (l' := [(0, .ref a_g), (1, .int y1), (2, .int y2), (3, .int y3), (4, .int y4)]) hl [0, 1, 2, 3, 4] rfl)
  have F9 : ∀ (n : Nat) (y1 : Int32) (y2 : Int32) (y3 : Int32), lX4_keepsOrder_9 g_count g_kept g_kinds g_positions n y1 y2 y3 = some r → ∀ ls : Array Slot, lv_has ls 7 [(0, .ref a_g), (1, .int y1), (2, .int y2), (3, .int y3)] → WP p l e rmX4_keepsOrder s m av below meth c r 9 ls [] := by
    intro n
    induction n with
    | zero => intro y1 y2 y3 h; exact no_some h
    | succ n ih =>
      intro y1 y2 y3 h ls hl
      rw [lX4_keepsOrder_9_s] at h
      refine lv_iload_n hx hb dX4_keepsOrder_9 rfl (lv_at hl 3 rfl) ?_
      refine lv_aload_n hx hb dX4_keepsOrder_10 rfl (lv_at hl 0 rfl) ?_
      refine va_get (D := D) (ci := 4) (v := .int g_count) (C := RX4) (T := TX4) (N := 4) hx hb hts hinX4 hown hKK.1 hP 0 rfl rfl 0 (by decide) lk47 (fun _ h9 => h9) rfl dX4_keepsOrder_11 ?_
      refine lv_icmp_ge (tgt := 111) hx hb dX4_keepsOrder_14 (by decide) (fun c1 => ?_) (fun c1 => ?_)
      · have h := ifp h c1
        refine lv_iconst (v := 1) hx hb dX4_keepsOrder_111 (by decide) ?_
        exact kRetZ hx hb hr hlk rfl (Option.some.inj h) dX4_keepsOrder_112
      · have h := ifn h c1
        refine lv_iconst (v := 0) hx hb dX4_keepsOrder_17 (by decide) ?_
        refine lv_istore (lv' := [(4, .int 0), (0, .ref a_g), (1, .int y1), (2, .int y2), (3, .int y3)]) hx hb dX4_keepsOrder_18 hl (by decide) rfl (fun ls hl => ?_)
        exact F20 (fun u1 u2 u3 => lX4_keepsOrder_9 g_count g_kept g_kinds g_positions n u1 u2 u3) (fun u1 u2 u3 h ls hl => ih u1 u2 u3 h ls hl) 5000 y1 y2 y3 0 h ls (lv_sub (l' := [(0, .ref a_g), (1, .int y1), (2, .int y2), (3, .int y3), (4, .int 0)]) hl [1, 2, 3, 4, 0] rfl)
  unfold fX4_keepsOrder at h
  refine lv_aload_n hx hb dX4_keepsOrder_0 rfl (lv_at hl 0 rfl) ?_
  refine va_get (D := D) (ci := 4) (v := .int g_kept) (C := RX4) (T := TX4) (N := 4) hx hb hts hinX4 hown hKK.1 hP 0 rfl rfl 1 (by decide) lk26 (fun _ h9 => h9) rfl dX4_keepsOrder_1 ?_
  refine lv_iload_n hx hb dX4_keepsOrder_4 rfl (lv_at hl 1 rfl) ?_
  refine lv_ior hx hb dX4_keepsOrder_5 ?_
  refine lv_istore_n (lv' := [(2, .int (g_kept ||| x1)), (0, .ref a_g), (1, .int x1)]) hx hb dX4_keepsOrder_6 rfl hl (by decide) rfl (fun ls hl => ?_)
  refine lv_iconst (v := 1) hx hb dX4_keepsOrder_7 (by decide) ?_
  refine lv_istore_n (lv' := [(3, .int 1), (2, .int (g_kept ||| x1)), (0, .ref a_g), (1, .int x1)]) hx hb dX4_keepsOrder_8 rfl hl (by decide) rfl (fun ls hl => ?_)
  exact F9 5000 x1 (g_kept ||| x1) 1 h ls (lv_sub (l' := [(0, .ref a_g), (1, .int x1), (2, .int (g_kept ||| x1)), (3, .int 1)]) hl [2, 3, 1, 0] rfl)
set_option maxHeartbeats 8000000 in
set_option maxRecDepth 100000 in
theorem qJ6_bitCount_0f7a4 (l : Launch) (D : va_G) (cI cM : ClassId) (x0 : Int32) (r : Int32) (h : fJ6_bitCount_0f7a4 x0 = some r) : PM l yJ6_bitCount_0f7a4 wsJ6_bitCount_0f7a4 rmJ6_bitCount_0f7a4 D cI cM [.int x0] ([]) r := by
  refine PM.of (cc := cJ6_bitCount_0f7a4) (maxL := 1) (ret := (some .int)) (by decide) rfl (Nat.le_of_ble_eq_true rfl) ?_
  intro p e s m below meth c ls hx hb hr hml hown hts hlk hP hKK hl
  have hown : s.vm.findClass RJ6 = some m.cls := hown
  have hl : lv_has ls 1 [(0, .int x0)] := hl
  generalize hav : ([.int x0] : List Value) = av at hts ⊢
  have SS : CallFix p m c cJ6_bitCount_0f7a4 1 s av.toArray wsJ6_bitCount_0f7a4 RJ6 := ⟨hx, hb, hml, hown, hts⟩
  have ld265 := hts (.constant RJ6 265 (1431655765)) (List.mem_of_getElem? (i := 1) rfl)
  have ld266 := hts (.constant RJ6 266 (858993459)) (List.mem_of_getElem? (i := 2) rfl)
  have ld267 := hts (.constant RJ6 267 (252645135)) (List.mem_of_getElem? (i := 3) rfl)
  unfold fJ6_bitCount_0f7a4 at h
  refine lv_iload_n hx hb dJ6_bitCount_0f7a4_0 rfl (lv_at hl 0 rfl) ?_
  refine lv_iload_n hx hb dJ6_bitCount_0f7a4_1 rfl (lv_at hl 0 rfl) ?_
  refine lv_iconst (v := 1) hx hb dJ6_bitCount_0f7a4_2 (by decide) ?_
  refine lv_iushr (v := (x0.toUInt32 >>> ((1 : Int32).toUInt32 &&& Int32.toUInt32 31)).toInt32) hx hb dJ6_bitCount_0f7a4_3 rfl ?_
  refine lv_ldcw hx hb hown ld265 dJ6_bitCount_0f7a4_4 ?_
  refine lv_iand hx hb dJ6_bitCount_0f7a4_7 ?_
  refine lv_isub hx hb dJ6_bitCount_0f7a4_8 ?_
  obtain ⟨v1, ev1, h⟩ := bn_some h
  refine kNm (Option.some.inj ev1) ?_
  refine lv_istore_n (lv' := [(0, .int v1)]) hx hb dJ6_bitCount_0f7a4_9 rfl hl (by decide) rfl (fun ls hl => ?_)
  refine lv_iload_n hx hb dJ6_bitCount_0f7a4_10 rfl (lv_at hl 0 rfl) ?_
  refine lv_ldcw hx hb hown ld266 dJ6_bitCount_0f7a4_11 ?_
  refine lv_iand hx hb dJ6_bitCount_0f7a4_14 ?_
  refine lv_iload_n hx hb dJ6_bitCount_0f7a4_15 rfl (lv_at hl 0 rfl) ?_
  refine lv_iconst (v := 2) hx hb dJ6_bitCount_0f7a4_16 (by decide) ?_
  refine lv_iushr (v := (v1.toUInt32 >>> ((2 : Int32).toUInt32 &&& Int32.toUInt32 31)).toInt32) hx hb dJ6_bitCount_0f7a4_17 rfl ?_
  refine lv_ldcw hx hb hown ld266 dJ6_bitCount_0f7a4_18 ?_
  refine lv_iand hx hb dJ6_bitCount_0f7a4_21 ?_
  refine lv_iadd hx hb dJ6_bitCount_0f7a4_22 ?_
  obtain ⟨v2, ev2, h⟩ := bn_some h
  refine kNm (Option.some.inj ev2) ?_
  refine lv_istore_n (lv' := [(0, .int v2)]) hx hb dJ6_bitCount_0f7a4_23 rfl hl (by decide) rfl (fun ls hl => ?_)
  refine lv_iload_n hx hb dJ6_bitCount_0f7a4_24 rfl (lv_at hl 0 rfl) ?_
  refine lv_iload_n hx hb dJ6_bitCount_0f7a4_25 rfl (lv_at hl 0 rfl) ?_
  refine lv_iconst (v := 4) hx hb dJ6_bitCount_0f7a4_26 (by decide) ?_
  refine lv_iushr (v := (v2.toUInt32 >>> ((4 : Int32).toUInt32 &&& Int32.toUInt32 31)).toInt32) hx hb dJ6_bitCount_0f7a4_27 rfl ?_
  refine lv_iadd hx hb dJ6_bitCount_0f7a4_28 ?_
  refine lv_ldcw hx hb hown ld267 dJ6_bitCount_0f7a4_29 ?_
  refine lv_iand hx hb dJ6_bitCount_0f7a4_32 ?_
  obtain ⟨v3, ev3, h⟩ := bn_some h
  refine kNm (Option.some.inj ev3) ?_
  refine lv_istore_n (lv' := [(0, .int v3)]) hx hb dJ6_bitCount_0f7a4_33 rfl hl (by decide) rfl (fun ls hl => ?_)
  refine lv_iload_n hx hb dJ6_bitCount_0f7a4_34 rfl (lv_at hl 0 rfl) ?_
  refine lv_iload_n hx hb dJ6_bitCount_0f7a4_35 rfl (lv_at hl 0 rfl) ?_
  refine lv_bipush (v := 8) hx hb dJ6_bitCount_0f7a4_36 (by decide) ?_
  refine lv_iushr (v := (v3.toUInt32 >>> ((8 : Int32).toUInt32 &&& Int32.toUInt32 31)).toInt32) hx hb dJ6_bitCount_0f7a4_38 rfl ?_
  refine lv_iadd hx hb dJ6_bitCount_0f7a4_39 ?_
  obtain ⟨v4, ev4, h⟩ := bn_some h
  refine kNm (Option.some.inj ev4) ?_
  refine lv_istore_n (lv' := [(0, .int v4)]) hx hb dJ6_bitCount_0f7a4_40 rfl hl (by decide) rfl (fun ls hl => ?_)
  refine lv_iload_n hx hb dJ6_bitCount_0f7a4_41 rfl (lv_at hl 0 rfl) ?_
  refine lv_iload_n hx hb dJ6_bitCount_0f7a4_42 rfl (lv_at hl 0 rfl) ?_
  refine lv_bipush (v := 16) hx hb dJ6_bitCount_0f7a4_43 (by decide) ?_
  refine lv_iushr (v := (v4.toUInt32 >>> ((16 : Int32).toUInt32 &&& Int32.toUInt32 31)).toInt32) hx hb dJ6_bitCount_0f7a4_45 rfl ?_
  refine lv_iadd hx hb dJ6_bitCount_0f7a4_46 ?_
  obtain ⟨v5, ev5, h⟩ := bn_some h
  refine kNm (Option.some.inj ev5) ?_
  refine lv_istore_n (lv' := [(0, .int v5)]) hx hb dJ6_bitCount_0f7a4_47 rfl hl (by decide) rfl (fun ls hl => ?_)
  refine lv_iload_n hx hb dJ6_bitCount_0f7a4_48 rfl (lv_at hl 0 rfl) ?_
  refine lv_bipush (v := 63) hx hb dJ6_bitCount_0f7a4_49 (by decide) ?_
  refine lv_iand hx hb dJ6_bitCount_0f7a4_51 ?_
  exact kRet hx hb hr hlk (Option.some.inj h) dJ6_bitCount_0f7a4_52
set_option maxHeartbeats 8000000 in
set_option maxRecDepth 100000 in
theorem qX4_choose (l : Launch) (D : va_G) (cI cM : ClassId) (a_g a_g_kinds a_g_positions a_k a_k_staticType a_k_dynamicType a_k_target a_k_argumentCounts a_k_temporaryCounts a_k_keys a_k_kinds a_k_values a_k_temporaryKinds a_k_newKinds a_k_newValues a_d a_d_sources a_d_keys a_d_defaults : Nat) (g_count : Int32) (g_kept : Int32) (g_kinds : Nat → Int32) (g_positions : Nat → Int32) (k_count : Int32) (k_frozenSet : Int32) (k_staticType : Nat → Int32) (k_dynamicType : Nat → Int32) (k_target : Nat → Int32) (k_argumentCounts : Nat → Int32) (k_temporaryCounts : Nat → Int32) (k_keys : Nat → Int32) (k_kinds : Nat → Int32) (k_values : Nat → Int32) (k_temporaryKinds : Nat → Int32) (k_newKinds : Nat → Int32) (k_newValues : Nat → Int32) (d_open : Int32) (d_method : Int32) (d_family : Int32) (d_oldCount : Int32) (d_keptSet : Int32) (d_count : Int32) (d_sources : Nat → Int32) (d_keys : Nat → Int32) (d_defaults : Nat → Int32) (d_usedKeys : Int32) (x2 : Int32) (r : Int32) (r_g_count : Int32) (r_g_kept : Int32) (r_g_kinds : Nat → Int32) (r_g_positions : Nat → Int32) (h : fX4_choose g_count g_kept g_kinds g_positions k_argumentCounts k_kinds d_keptSet d_count d_sources x2 = some (r, r_g_count, r_g_kept, r_g_kinds, r_g_positions)) : IM l yX4_choose wsX4_choose rmX4_choose D cI cM [.ref a_g, .ref a_k, .int x2, .ref a_d] (W_g_k_d cI cM a_g a_g_kinds a_g_positions a_k a_k_staticType a_k_dynamicType a_k_target a_k_argumentCounts a_k_temporaryCounts a_k_keys a_k_kinds a_k_values a_k_temporaryKinds a_k_newKinds a_k_newValues a_d a_d_sources a_d_keys a_d_defaults g_count g_kept g_kinds g_positions k_count k_frozenSet k_staticType k_dynamicType k_target k_argumentCounts k_temporaryCounts k_keys k_kinds k_values k_temporaryKinds k_newKinds k_newValues d_open d_method d_family d_oldCount d_keptSet d_count d_sources d_keys d_defaults d_usedKeys) (W_g_k_d cI cM a_g a_g_kinds a_g_positions a_k a_k_staticType a_k_dynamicType a_k_target a_k_argumentCounts a_k_temporaryCounts a_k_keys a_k_kinds a_k_values a_k_temporaryKinds a_k_newKinds a_k_newValues a_d a_d_sources a_d_keys a_d_defaults r_g_count r_g_kept r_g_kinds r_g_positions k_count k_frozenSet k_staticType k_dynamicType k_target k_argumentCounts k_temporaryCounts k_keys k_kinds k_values k_temporaryKinds k_newKinds k_newValues d_open d_method d_family d_oldCount d_keptSet d_count d_sources d_keys d_defaults d_usedKeys) (some (.int r)) := by
  refine IM.of (cc := cX4_choose) (maxL := 10) (ret := (some .int)) (by decide) rfl (Nat.le_of_ble_eq_true rfl) ?_
  intro p e s m below meth c ls hx hb hr hml hown hts hlk hKK hP hD hS hl
  have hown : s.vm.findClass RX4 = some m.cls := hown
  have hl : lv_has ls 10 [(0, .ref a_g), (1, .ref a_k), (2, .int x2), (3, .ref a_d)] := hl
  generalize hav : ([.ref a_g, .ref a_k, .int x2, .ref a_d] : List Value) = av at hts ⊢
  generalize hw1 : W_g_k_d cI cM a_g a_g_kinds a_g_positions a_k a_k_staticType a_k_dynamicType a_k_target a_k_argumentCounts a_k_temporaryCounts a_k_keys a_k_kinds a_k_values a_k_temporaryKinds a_k_newKinds a_k_newValues a_d a_d_sources a_d_keys a_d_defaults r_g_count r_g_kept r_g_kinds r_g_positions k_count k_frozenSet k_staticType k_dynamicType k_target k_argumentCounts k_temporaryCounts k_keys k_kinds k_values k_temporaryKinds k_newKinds k_newValues d_open d_method d_family d_oldCount d_keptSet d_count d_sources d_keys d_defaults d_usedKeys = w1
  generalize hw0 : W_g_k_d cI cM a_g a_g_kinds a_g_positions a_k a_k_staticType a_k_dynamicType a_k_target a_k_argumentCounts a_k_temporaryCounts a_k_keys a_k_kinds a_k_values a_k_temporaryKinds a_k_newKinds a_k_newValues a_d a_d_sources a_d_keys a_d_defaults g_count g_kept g_kinds g_positions k_count k_frozenSet k_staticType k_dynamicType k_target k_argumentCounts k_temporaryCounts k_keys k_kinds k_values k_temporaryKinds k_newKinds k_newValues d_open d_method d_family d_oldCount d_keptSet d_count d_sources d_keys d_defaults d_usedKeys = w0 at hD hS ⊢
  have hP : va_P D vwCl (W_g_k_d cI cM a_g a_g_kinds a_g_positions a_k a_k_staticType a_k_dynamicType a_k_target a_k_argumentCounts a_k_temporaryCounts a_k_keys a_k_kinds a_k_values a_k_temporaryKinds a_k_newKinds a_k_newValues a_d a_d_sources a_d_keys a_d_defaults g_count g_kept g_kinds g_positions k_count k_frozenSet k_staticType k_dynamicType k_target k_argumentCounts k_temporaryCounts k_keys k_kinds k_values k_temporaryKinds k_newKinds k_newValues d_open d_method d_family d_oldCount d_keptSet d_count d_sources d_keys d_defaults d_usedKeys) s.heap := hP
  have hD : va_D (fun q => q ∈ w0.map (·.1)) (W_g_k_d cI cM a_g a_g_kinds a_g_positions a_k a_k_staticType a_k_dynamicType a_k_target a_k_argumentCounts a_k_temporaryCounts a_k_keys a_k_kinds a_k_values a_k_temporaryKinds a_k_newKinds a_k_newValues a_d a_d_sources a_d_keys a_d_defaults g_count g_kept g_kinds g_positions k_count k_frozenSet k_staticType k_dynamicType k_target k_argumentCounts k_temporaryCounts k_keys k_kinds k_values k_temporaryKinds k_newKinds k_newValues d_open d_method d_family d_oldCount d_keptSet d_count d_sources d_keys d_defaults d_usedKeys) := by rw [hw0]; exact hD
  have SS : CallFix p m c cX4_choose 10 s av.toArray wsX4_choose RX4 := ⟨hx, hb, hml, hown, hts⟩
  have hinX4 : ∀ w ∈ u_ws RX4 TX4 4, w ∈ wsX4_choose := by decide +kernel
  have lk26 := hts (.fieldLink RX4 26 "SignatureChanger$Hoisting" "kept" "I") (List.mem_of_getElem? (i := 1) rfl)
  have cw18 : CallW rmX4_choose s av.toArray RX4 RX4 18 yX4_look cX4_look 5 none wsX4_look rmX4_look 0 0 3 := cwV 3 hts gX4_choose_X4_look rfl rfl rfl (by decide +kernel) ⟨Nat.le_of_ble_eq_true rfl, Nat.le_of_ble_eq_true rfl⟩
  have cw22 : CallW rmX4_choose s av.toArray RX4 RX4 22 yX4_ofKind cX4_ofKind 4 (some .int) wsX4_ofKind rmX4_ofKind 0 0 1 := cwV 1 hts gX4_choose_X4_ofKind rfl rfl rfl (by decide +kernel) ⟨Nat.le_of_ble_eq_true rfl, Nat.le_of_ble_eq_true rfl⟩
  have cw30 : va_CN rmX4_choose s av.toArray RX4 30 yX8_bit RX8 cX8_bit 1 (some .int) wsX8_bit rmX8_bit 0 0 1 ∧ (Cond.static yX8_bit).before av.toArray s = true ∧ True := ⟨va_cnB 1 hts gX4_choose_X8_bit_n30 rfl rfl rfl (hKK.2.at 21 rfl) (hts (.initialized RX8) (List.mem_of_getElem? (i := 25) rfl)) (by decide +kernel) ⟨Nat.le_of_ble_eq_true rfl, Nat.le_of_ble_eq_true rfl⟩, hts (.static yX8_bit) (List.mem_of_getElem? (i := 24) rfl), trivial⟩
  have cw33 : CallB rmX4_choose s av.toArray RX4 33 yJ6_bitCount_0f7a4 cJ6_bitCount_0f7a4 1 (some .int) wsJ6_bitCount_0f7a4 rmJ6_bitCount_0f7a4 0 0 1 ∧ (Cond.static yJ6_bitCount_0f7a4).before av.toArray s = true := va_cwS 1 hts gX4_choose_J6_bitCount_0f7a4 rfl rfl rfl (by decide +kernel) ⟨Nat.le_of_ble_eq_true rfl, Nat.le_of_ble_eq_true rfl⟩
  have cw38 : CallW rmX4_choose s av.toArray RX4 RX4 38 yX4_keepsOrder cX4_keepsOrder 7 (some .boolean) wsX4_keepsOrder rmX4_keepsOrder 0 0 1 := cwV 1 hts gX4_choose_X4_keepsOrder rfl rfl rfl (by decide +kernel) ⟨Nat.le_of_ble_eq_true rfl, Nat.le_of_ble_eq_true rfl⟩
  have F100 : ∀ (k46 : (Int32) → (Int32) → (Nat → Int32) → (Nat → Int32) → Int32 → Int32 → Int32 → Int32 → Option (Int32 × Int32 × Int32 × (Nat → Int32) × (Nat → Int32))) (hk46 : ∀ (H : Heap) (locs : List Loc) (w_g_count : Int32) (w_g_kept : Int32) (w_g_kinds : Nat → Int32) (w_g_positions : Nat → Int32) (u4 : Int32) (u5 : Int32) (u6 : Int32) (u7 : Int32), k46 w_g_count w_g_kept w_g_kinds w_g_positions u4 u5 u6 u7 = some (r, r_g_count, r_g_kept, r_g_kinds, r_g_positions) → va_P D vwCl (W_g_k_d cI cM a_g a_g_kinds a_g_positions a_k a_k_staticType a_k_dynamicType a_k_target a_k_argumentCounts a_k_temporaryCounts a_k_keys a_k_kinds a_k_values a_k_temporaryKinds a_k_newKinds a_k_newValues a_d a_d_sources a_d_keys a_d_defaults w_g_count w_g_kept w_g_kinds w_g_positions k_count k_frozenSet k_staticType k_dynamicType k_target k_argumentCounts k_temporaryCounts k_keys k_kinds k_values k_temporaryKinds k_newKinds k_newValues d_open d_method d_family d_oldCount d_keptSet d_count d_sources d_keys d_defaults d_usedKeys) H → va_D (fun q => q ∈ w0.map (·.1)) (W_g_k_d cI cM a_g a_g_kinds a_g_positions a_k a_k_staticType a_k_dynamicType a_k_target a_k_argumentCounts a_k_temporaryCounts a_k_keys a_k_kinds a_k_values a_k_temporaryKinds a_k_newKinds a_k_newValues a_d a_d_sources a_d_keys a_d_defaults w_g_count w_g_kept w_g_kinds w_g_positions k_count k_frozenSet k_staticType k_dynamicType k_target k_argumentCounts k_temporaryCounts k_keys k_kinds k_values k_temporaryKinds k_newKinds k_newValues d_open d_method d_family d_oldCount d_keptSet d_count d_sources d_keys d_defaults d_usedKeys) → va_S (fun q => q ∈ w0.map (·.1)) s.heap H locs → ∀ ls : Array Slot, lv_has ls 10 [(0, .ref a_g), (4, .int u4), (5, .int u5), (6, .int u6), (7, .int u7)] → WI p l e rmX4_choose s m av below meth c D w0 w1 (some (.int r)) H locs 46 ls []), ∀ (H : Heap) (locs : List Loc) (g_count : Int32) (g_kept : Int32) (g_kinds : Nat → Int32) (g_positions : Nat → Int32) (y4 : Int32) (y5 : Int32) (y6 : Int32) (y7 : Int32) (y8 : Int32) (s0 : Int32), jX4_choose_100 k_argumentCounts k_kinds d_keptSet d_count d_sources k46 g_count g_kept g_kinds g_positions y4 y5 y6 y7 y8 s0 = some (r, r_g_count, r_g_kept, r_g_kinds, r_g_positions) → va_P D vwCl (W_g_k_d cI cM a_g a_g_kinds a_g_positions a_k a_k_staticType a_k_dynamicType a_k_target a_k_argumentCounts a_k_temporaryCounts a_k_keys a_k_kinds a_k_values a_k_temporaryKinds a_k_newKinds a_k_newValues a_d a_d_sources a_d_keys a_d_defaults g_count g_kept g_kinds g_positions k_count k_frozenSet k_staticType k_dynamicType k_target k_argumentCounts k_temporaryCounts k_keys k_kinds k_values k_temporaryKinds k_newKinds k_newValues d_open d_method d_family d_oldCount d_keptSet d_count d_sources d_keys d_defaults d_usedKeys) H → va_D (fun q => q ∈ (w0).map (·.1)) (W_g_k_d cI cM a_g a_g_kinds a_g_positions a_k a_k_staticType a_k_dynamicType a_k_target a_k_argumentCounts a_k_temporaryCounts a_k_keys a_k_kinds a_k_values a_k_temporaryKinds a_k_newKinds a_k_newValues a_d a_d_sources a_d_keys a_d_defaults g_count g_kept g_kinds g_positions k_count k_frozenSet k_staticType k_dynamicType k_target k_argumentCounts k_temporaryCounts k_keys k_kinds k_values k_temporaryKinds k_newKinds k_newValues d_open d_method d_family d_oldCount d_keptSet d_count d_sources d_keys d_defaults d_usedKeys) → va_S (fun q => q ∈ (w0).map (·.1)) s.heap H locs → ∀ ls : Array Slot, lv_has ls 10 [(0, .ref a_g), (4, .int y4), (5, .int y5), (6, .int y6), (7, .int y7), (8, .int y8)] → WI p l e rmX4_choose s m av below meth c D w0 w1 (some (.int r)) H locs 100 ls [.int s0] := by
    intro k46 hk46
    intro H locs g_count g_kept g_kinds g_positions y4 y5 y6 y7 y8 s0 h hP hD hS ls hl
    unfold jX4_choose_100 at h
    refine lv_istore (lv' := [(9, .int s0), (0, .ref a_g), (4, .int y4), (5, .int y5), (6, .int y6), (7, .int y7), (8, .int y8)]) hx hb dX4_choose_100 hl (by decide) rfl (fun ls hl => ?_)
    refine lv_iload hx hb dX4_choose_102 (lv_at hl 6 rfl) ?_
    refine lv_if_eq (tgt := 125) hx hb dX4_choose_104 (by decide) (fun c1 => ?_) (fun c1 => ?_)
    · have h := ifp h c1
      refine lv_iinc (v := y7 + 1) (lv' := [(7, .int (y7 + 1)), (9, .int s0), (0, .ref a_g), (4, .int y4), (5, .int y5), (6, .int y6), (8, .int y8)]) hx hb dX4_choose_125 hl (k := 5) rfl rfl (by decide) rfl (fun ls hl => ?_)
      refine lv_goto (tgt := 46) hx hb dX4_choose_128 (by decide) ?_
      exact hk46 H locs g_count g_kept g_kinds g_positions y4 y5 y6 (y7 + 1) h hP hD hS ls (lv_sub (l' := [(0, .ref a_g), (4, .int y4), (5, .int y5), (6, .int y6), (7, .int (y7 + 1))]) hl [2, 3, 4, 5, 0] rfl)
    · have h := ifn h c1
      refine lv_iload hx hb dX4_choose_107 (lv_at hl 0 rfl) ?_
      refine lv_if_eq (tgt := 125) hx hb dX4_choose_109 (by decide) (fun c2 => ?_) (fun c2 => ?_)
      · have h := ifp h c2
        refine lv_iinc (v := y7 + 1) (lv' := [(7, .int (y7 + 1)), (9, .int s0), (0, .ref a_g), (4, .int y4), (5, .int y5), (6, .int y6), (8, .int y8)]) hx hb dX4_choose_125 hl (k := 5) rfl rfl (by decide) rfl (fun ls hl => ?_)
        refine lv_goto (tgt := 46) hx hb dX4_choose_128 (by decide) ?_
        exact hk46 H locs g_count g_kept g_kinds g_positions y4 y5 y6 (y7 + 1) h hP hD hS ls (lv_sub (l' := [(0, .ref a_g), (4, .int y4), (5, .int y5), (6, .int y6), (7, .int (y7 + 1))]) hl [2, 3, 4, 5, 0] rfl)
      · have h := ifn h c2
        refine lv_aload_n hx hb dX4_choose_112 rfl (lv_at hl 1 rfl) ?_
        refine lv_iload hx hb dX4_choose_113 (lv_at hl 5 rfl) ?_
        obtain ⟨v3, ev3, h⟩ := bn_some h
        have hs4 : va_P D vwCl (W_g cI cM a_g a_g_kinds a_g_positions g_count g_kept g_kinds g_positions) _ := hP.sub (ws' := W_g cI cM a_g a_g_kinds a_g_positions g_count g_kept g_kinds g_positions) [0, 1, 2] rfl
        refine kV (As := [.int y7]) (rest := []) SS hKK (qX4_keepsOrder l D cI cM a_g a_g_kinds a_g_positions g_count g_kept g_kinds g_positions y7 v3 ev3) cw38 hs4 0 4 rfl rfl rfl hl.1 rfl (Nat.le_of_ble_eq_true rfl) dX4_choose_115 ⟨Nat.zero_le _, Nat.zero_le _⟩ ?_
        refine lv_if_eq (tgt := 125) hx hb dX4_choose_118 (by decide) (fun c5 => ?_) (fun c5 => ?_)
        · have h := ifp h c5
          refine lv_iinc (v := y7 + 1) (lv' := [(7, .int (y7 + 1)), (9, .int s0), (0, .ref a_g), (4, .int y4), (5, .int y5), (6, .int y6), (8, .int y8)]) hx hb dX4_choose_125 hl (k := 5) rfl rfl (by decide) rfl (fun ls hl => ?_)
          refine lv_goto (tgt := 46) hx hb dX4_choose_128 (by decide) ?_
          exact hk46 H locs g_count g_kept g_kinds g_positions y4 y5 y6 (y7 + 1) h hP hD hS ls (lv_sub (l' := [(0, .ref a_g), (4, .int y4), (5, .int y5), (6, .int y6), (7, .int (y7 + 1))]) hl [2, 3, 4, 5, 0] rfl)
        · have h := ifn h c5
          refine lv_iload hx hb dX4_choose_121 (lv_at hl 5 rfl) ?_
          refine lv_istore (lv' := [(6, .int y7), (9, .int s0), (0, .ref a_g), (4, .int y4), (5, .int y5), (7, .int y7), (8, .int y8)]) hx hb dX4_choose_123 hl (by decide) rfl (fun ls hl => ?_)
          refine lv_iinc (v := y7 + 1) (lv' := [(7, .int (y7 + 1)), (6, .int y7), (9, .int s0), (0, .ref a_g), (4, .int y4), (5, .int y5), (8, .int y8)]) hx hb dX4_choose_125 hl (k := 5) rfl rfl (by decide) rfl (fun ls hl => ?_)
          refine lv_goto (tgt := 46) hx hb dX4_choose_128 (by decide) ?_
          exact hk46 H locs g_count g_kept g_kinds g_positions y4 y5 y7 (y7 + 1) h hP hD hS ls (lv_sub (l' := [(0, .ref a_g), (4, .int y4), (5, .int y5), (6, .int y7), (7, .int (y7 + 1))]) hl [3, 4, 5, 1, 0] rfl)
  have F80 : ∀ (k46 : (Int32) → (Int32) → (Nat → Int32) → (Nat → Int32) → Int32 → Int32 → Int32 → Int32 → Option (Int32 × Int32 × Int32 × (Nat → Int32) × (Nat → Int32))) (hk46 : ∀ (H : Heap) (locs : List Loc) (w_g_count : Int32) (w_g_kept : Int32) (w_g_kinds : Nat → Int32) (w_g_positions : Nat → Int32) (u4 : Int32) (u5 : Int32) (u6 : Int32) (u7 : Int32), k46 w_g_count w_g_kept w_g_kinds w_g_positions u4 u5 u6 u7 = some (r, r_g_count, r_g_kept, r_g_kinds, r_g_positions) → va_P D vwCl (W_g_k_d cI cM a_g a_g_kinds a_g_positions a_k a_k_staticType a_k_dynamicType a_k_target a_k_argumentCounts a_k_temporaryCounts a_k_keys a_k_kinds a_k_values a_k_temporaryKinds a_k_newKinds a_k_newValues a_d a_d_sources a_d_keys a_d_defaults w_g_count w_g_kept w_g_kinds w_g_positions k_count k_frozenSet k_staticType k_dynamicType k_target k_argumentCounts k_temporaryCounts k_keys k_kinds k_values k_temporaryKinds k_newKinds k_newValues d_open d_method d_family d_oldCount d_keptSet d_count d_sources d_keys d_defaults d_usedKeys) H → va_D (fun q => q ∈ w0.map (·.1)) (W_g_k_d cI cM a_g a_g_kinds a_g_positions a_k a_k_staticType a_k_dynamicType a_k_target a_k_argumentCounts a_k_temporaryCounts a_k_keys a_k_kinds a_k_values a_k_temporaryKinds a_k_newKinds a_k_newValues a_d a_d_sources a_d_keys a_d_defaults w_g_count w_g_kept w_g_kinds w_g_positions k_count k_frozenSet k_staticType k_dynamicType k_target k_argumentCounts k_temporaryCounts k_keys k_kinds k_values k_temporaryKinds k_newKinds k_newValues d_open d_method d_family d_oldCount d_keptSet d_count d_sources d_keys d_defaults d_usedKeys) → va_S (fun q => q ∈ w0.map (·.1)) s.heap H locs → ∀ ls : Array Slot, lv_has ls 10 [(0, .ref a_g), (4, .int u4), (5, .int u5), (6, .int u6), (7, .int u7)] → WI p l e rmX4_choose s m av below meth c D w0 w1 (some (.int r)) H locs 46 ls []), ∀ (H : Heap) (locs : List Loc) (g_count : Int32) (g_kept : Int32) (g_kinds : Nat → Int32) (g_positions : Nat → Int32) (y4 : Int32) (y5 : Int32) (y6 : Int32) (y7 : Int32) (s0 : Int32), jX4_choose_80 k_argumentCounts k_kinds d_keptSet d_count d_sources k46 g_count g_kept g_kinds g_positions y4 y5 y6 y7 s0 = some (r, r_g_count, r_g_kept, r_g_kinds, r_g_positions) → va_P D vwCl (W_g_k_d cI cM a_g a_g_kinds a_g_positions a_k a_k_staticType a_k_dynamicType a_k_target a_k_argumentCounts a_k_temporaryCounts a_k_keys a_k_kinds a_k_values a_k_temporaryKinds a_k_newKinds a_k_newValues a_d a_d_sources a_d_keys a_d_defaults g_count g_kept g_kinds g_positions k_count k_frozenSet k_staticType k_dynamicType k_target k_argumentCounts k_temporaryCounts k_keys k_kinds k_values k_temporaryKinds k_newKinds k_newValues d_open d_method d_family d_oldCount d_keptSet d_count d_sources d_keys d_defaults d_usedKeys) H → va_D (fun q => q ∈ (w0).map (·.1)) (W_g_k_d cI cM a_g a_g_kinds a_g_positions a_k a_k_staticType a_k_dynamicType a_k_target a_k_argumentCounts a_k_temporaryCounts a_k_keys a_k_kinds a_k_values a_k_temporaryKinds a_k_newKinds a_k_newValues a_d a_d_sources a_d_keys a_d_defaults g_count g_kept g_kinds g_positions k_count k_frozenSet k_staticType k_dynamicType k_target k_argumentCounts k_temporaryCounts k_keys k_kinds k_values k_temporaryKinds k_newKinds k_newValues d_open d_method d_family d_oldCount d_keptSet d_count d_sources d_keys d_defaults d_usedKeys) → va_S (fun q => q ∈ (w0).map (·.1)) s.heap H locs → ∀ ls : Array Slot, lv_has ls 10 [(0, .ref a_g), (4, .int y4), (5, .int y5), (6, .int y6), (7, .int y7)] → WI p l e rmX4_choose s m av below meth c D w0 w1 (some (.int r)) H locs 80 ls [.int s0] := by
    intro k46 hk46
    intro H locs g_count g_kept g_kinds g_positions y4 y5 y6 y7 s0 h hP hD hS ls hl
    unfold jX4_choose_80 at h
    refine lv_istore (lv' := [(8, .int s0), (0, .ref a_g), (4, .int y4), (5, .int y5), (6, .int y6), (7, .int y7)]) hx hb dX4_choose_80 hl (by decide) rfl (fun ls hl => ?_)
    refine lv_iload hx hb dX4_choose_82 (lv_at hl 5 rfl) ?_
    obtain ⟨v1, ev1, h⟩ := bn_some h
    refine kS (As := [.int y7]) (rest := []) SS hKK (qJ6_bitCount_0f7a4 l D cI cM y7 v1 ev1) cw33 va_P_nil rfl hl.1 rfl (Nat.le_of_ble_eq_true rfl) dX4_choose_84 ⟨Nat.zero_le _, Nat.zero_le _⟩ ?_
    refine lv_iload hx hb dX4_choose_87 (lv_at hl 4 rfl) ?_
    obtain ⟨v2, ev2, h⟩ := bn_some h
    refine kS (As := [.int y6]) (rest := [.int v1]) SS hKK (qJ6_bitCount_0f7a4 l D cI cM y6 v2 ev2) cw33 va_P_nil rfl hl.1 rfl (Nat.le_of_ble_eq_true rfl) dX4_choose_89 ⟨Nat.zero_le _, Nat.zero_le _⟩ ?_
    refine lv_icmp_ge (tgt := 99) hx hb dX4_choose_92 (by decide) (fun c3 => ?_) (fun c3 => ?_)
    · have h := ifp h c3
      refine lv_iconst (v := 0) hx hb dX4_choose_99 (by decide) ?_
      exact F100 k46 hk46 H locs g_count g_kept g_kinds g_positions y4 y5 y6 y7 s0 0 h hP hD hS ls (lv_sub (l' := [(0, .ref a_g), (4, .int y4), (5, .int y5), (6, .int y6), (7, .int y7), (8, .int s0)]) hl [1, 2, 3, 4, 5, 0] rfl)
    · have h := ifn h c3
      refine lv_iconst (v := 1) hx hb dX4_choose_95 (by decide) ?_
      refine lv_goto (tgt := 100) hx hb dX4_choose_96 (by decide) ?_
      exact F100 k46 hk46 H locs g_count g_kept g_kinds g_positions y4 y5 y6 y7 s0 1 h hP hD hS ls (lv_sub (l' := [(0, .ref a_g), (4, .int y4), (5, .int y5), (6, .int y6), (7, .int y7), (8, .int s0)]) hl [1, 2, 3, 4, 5, 0] rfl)
  have F79 : ∀ (k46 : (Int32) → (Int32) → (Nat → Int32) → (Nat → Int32) → Int32 → Int32 → Int32 → Int32 → Option (Int32 × Int32 × Int32 × (Nat → Int32) × (Nat → Int32))) (hk46 : ∀ (H : Heap) (locs : List Loc) (w_g_count : Int32) (w_g_kept : Int32) (w_g_kinds : Nat → Int32) (w_g_positions : Nat → Int32) (u4 : Int32) (u5 : Int32) (u6 : Int32) (u7 : Int32), k46 w_g_count w_g_kept w_g_kinds w_g_positions u4 u5 u6 u7 = some (r, r_g_count, r_g_kept, r_g_kinds, r_g_positions) → va_P D vwCl (W_g_k_d cI cM a_g a_g_kinds a_g_positions a_k a_k_staticType a_k_dynamicType a_k_target a_k_argumentCounts a_k_temporaryCounts a_k_keys a_k_kinds a_k_values a_k_temporaryKinds a_k_newKinds a_k_newValues a_d a_d_sources a_d_keys a_d_defaults w_g_count w_g_kept w_g_kinds w_g_positions k_count k_frozenSet k_staticType k_dynamicType k_target k_argumentCounts k_temporaryCounts k_keys k_kinds k_values k_temporaryKinds k_newKinds k_newValues d_open d_method d_family d_oldCount d_keptSet d_count d_sources d_keys d_defaults d_usedKeys) H → va_D (fun q => q ∈ w0.map (·.1)) (W_g_k_d cI cM a_g a_g_kinds a_g_positions a_k a_k_staticType a_k_dynamicType a_k_target a_k_argumentCounts a_k_temporaryCounts a_k_keys a_k_kinds a_k_values a_k_temporaryKinds a_k_newKinds a_k_newValues a_d a_d_sources a_d_keys a_d_defaults w_g_count w_g_kept w_g_kinds w_g_positions k_count k_frozenSet k_staticType k_dynamicType k_target k_argumentCounts k_temporaryCounts k_keys k_kinds k_values k_temporaryKinds k_newKinds k_newValues d_open d_method d_family d_oldCount d_keptSet d_count d_sources d_keys d_defaults d_usedKeys) → va_S (fun q => q ∈ w0.map (·.1)) s.heap H locs → ∀ ls : Array Slot, lv_has ls 10 [(0, .ref a_g), (4, .int u4), (5, .int u5), (6, .int u6), (7, .int u7)] → WI p l e rmX4_choose s m av below meth c D w0 w1 (some (.int r)) H locs 46 ls []), ∀ (H : Heap) (locs : List Loc) (g_count : Int32) (g_kept : Int32) (g_kinds : Nat → Int32) (g_positions : Nat → Int32) (y4 : Int32) (y5 : Int32) (y6 : Int32) (y7 : Int32), jX4_choose_79 k_argumentCounts k_kinds d_keptSet d_count d_sources k46 g_count g_kept g_kinds g_positions y4 y5 y6 y7 = some (r, r_g_count, r_g_kept, r_g_kinds, r_g_positions) → va_P D vwCl (W_g_k_d cI cM a_g a_g_kinds a_g_positions a_k a_k_staticType a_k_dynamicType a_k_target a_k_argumentCounts a_k_temporaryCounts a_k_keys a_k_kinds a_k_values a_k_temporaryKinds a_k_newKinds a_k_newValues a_d a_d_sources a_d_keys a_d_defaults g_count g_kept g_kinds g_positions k_count k_frozenSet k_staticType k_dynamicType k_target k_argumentCounts k_temporaryCounts k_keys k_kinds k_values k_temporaryKinds k_newKinds k_newValues d_open d_method d_family d_oldCount d_keptSet d_count d_sources d_keys d_defaults d_usedKeys) H → va_D (fun q => q ∈ (w0).map (·.1)) (W_g_k_d cI cM a_g a_g_kinds a_g_positions a_k a_k_staticType a_k_dynamicType a_k_target a_k_argumentCounts a_k_temporaryCounts a_k_keys a_k_kinds a_k_values a_k_temporaryKinds a_k_newKinds a_k_newValues a_d a_d_sources a_d_keys a_d_defaults g_count g_kept g_kinds g_positions k_count k_frozenSet k_staticType k_dynamicType k_target k_argumentCounts k_temporaryCounts k_keys k_kinds k_values k_temporaryKinds k_newKinds k_newValues d_open d_method d_family d_oldCount d_keptSet d_count d_sources d_keys d_defaults d_usedKeys) → va_S (fun q => q ∈ (w0).map (·.1)) s.heap H locs → ∀ ls : Array Slot, lv_has ls 10 [(0, .ref a_g), (4, .int y4), (5, .int y5), (6, .int y6), (7, .int y7)] → WI p l e rmX4_choose s m av below meth c D w0 w1 (some (.int r)) H locs 79 ls [] := by
    intro k46 hk46
    intro H locs g_count g_kept g_kinds g_positions y4 y5 y6 y7 h hP hD hS ls hl
    unfold jX4_choose_79 at h
    refine lv_iconst (v := 0) hx hb dX4_choose_79 (by decide) ?_
    exact F80 k46 hk46 H locs g_count g_kept g_kinds g_positions y4 y5 y6 y7 0 h hP hD hS ls (lv_sub (l' := [(0, .ref a_g), (4, .int y4), (5, .int y5), (6, .int y6), (7, .int y7)]) hl [0, 1, 2, 3, 4] rfl)
  have F46 : ∀ (n : Nat) (H : Heap) (locs : List Loc) (g_count : Int32) (g_kept : Int32) (g_kinds : Nat → Int32) (g_positions : Nat → Int32) (y4 : Int32) (y5 : Int32) (y6 : Int32) (y7 : Int32), lX4_choose_46 k_argumentCounts k_kinds d_keptSet d_count d_sources n g_count g_kept g_kinds g_positions y4 y5 y6 y7 = some (r, r_g_count, r_g_kept, r_g_kinds, r_g_positions) → va_P D vwCl (W_g_k_d cI cM a_g a_g_kinds a_g_positions a_k a_k_staticType a_k_dynamicType a_k_target a_k_argumentCounts a_k_temporaryCounts a_k_keys a_k_kinds a_k_values a_k_temporaryKinds a_k_newKinds a_k_newValues a_d a_d_sources a_d_keys a_d_defaults g_count g_kept g_kinds g_positions k_count k_frozenSet k_staticType k_dynamicType k_target k_argumentCounts k_temporaryCounts k_keys k_kinds k_values k_temporaryKinds k_newKinds k_newValues d_open d_method d_family d_oldCount d_keptSet d_count d_sources d_keys d_defaults d_usedKeys) H → va_D (fun q => q ∈ (w0).map (·.1)) (W_g_k_d cI cM a_g a_g_kinds a_g_positions a_k a_k_staticType a_k_dynamicType a_k_target a_k_argumentCounts a_k_temporaryCounts a_k_keys a_k_kinds a_k_values a_k_temporaryKinds a_k_newKinds a_k_newValues a_d a_d_sources a_d_keys a_d_defaults g_count g_kept g_kinds g_positions k_count k_frozenSet k_staticType k_dynamicType k_target k_argumentCounts k_temporaryCounts k_keys k_kinds k_values k_temporaryKinds k_newKinds k_newValues d_open d_method d_family d_oldCount d_keptSet d_count d_sources d_keys d_defaults d_usedKeys) → va_S (fun q => q ∈ (w0).map (·.1)) s.heap H locs → ∀ ls : Array Slot, lv_has ls 10 [(0, .ref a_g), (4, .int y4), (5, .int y5), (6, .int y6), (7, .int y7)] → WI p l e rmX4_choose s m av below meth c D w0 w1 (some (.int r)) H locs 46 ls [] := by
    intro n
    induction n with
    | zero => intro H locs g_count g_kept g_kinds g_positions y4 y5 y6 y7 h; exact no_some h
    | succ n ih =>
      intro H locs g_count g_kept g_kinds g_positions y4 y5 y6 y7 h hP hD hS ls hl
      rw [lX4_choose_46_s] at h
      refine lv_iload hx hb dX4_choose_46 (lv_at hl 4 rfl) ?_
      refine lv_iconst (v := 5) hx hb dX4_choose_48 (by decide) ?_
      obtain ⟨v1, ev1, h⟩ := bn_some h
      refine kSN (As := [.int 5]) (rest := [.int y7]) SS hKK (qX8_bit l D cI cM 5 v1 ev1) cw30 va_P_nil rfl hl.1 rfl (Nat.le_of_ble_eq_true rfl) dX4_choose_49 ⟨Nat.zero_le _, Nat.zero_le _⟩ ?_
      refine lv_icmp_ge (tgt := 131) hx hb dX4_choose_52 (by decide) (fun c2 => ?_) (fun c2 => ?_)
      · have h := ifp h c2
        refine lv_iload hx hb dX4_choose_131 (lv_at hl 3 rfl) ?_
        simp only [Option.some.injEq, Prod.mk.injEq] at h
        obtain ⟨e0, e1, e2, e3, e4⟩ := h
        exact kRetI hx hb hr hlk e0 (by rw [← hw1, ← e1, ← e2, ← e3, ← e4]; exact hP) hS dX4_choose_133
      · have h := ifn h c2
        refine lv_iload hx hb dX4_choose_55 (lv_at hl 1 rfl) ?_
        refine lv_iload hx hb dX4_choose_57 (lv_at hl 4 rfl) ?_
        refine lv_iconst (v := (-1)) hx hb dX4_choose_59 (by decide) ?_
        refine lv_ixor hx hb dX4_choose_60 ?_
        refine lv_iand hx hb dX4_choose_61 ?_
        refine lv_if_ne (tgt := 79) hx hb dX4_choose_62 (by decide) (fun c3 => ?_) (fun c3 => ?_)
        · have h := ifn h c3
          exact F79 (fun w_g_count w_g_kept w_g_kinds w_g_positions u4 u5 u6 u7 => lX4_choose_46 k_argumentCounts k_kinds d_keptSet d_count d_sources n w_g_count w_g_kept w_g_kinds w_g_positions u4 u5 u6 u7) (fun H locs w_g_count w_g_kept w_g_kinds w_g_positions u4 u5 u6 u7 h hP hD hS ls hl => ih H locs w_g_count w_g_kept w_g_kinds w_g_positions u4 u5 u6 u7 h hP hD hS ls hl) H locs g_count g_kept g_kinds g_positions y4 y5 y6 y7 h hP hD hS ls (lv_sub (l' := [(0, .ref a_g), (4, .int y4), (5, .int y5), (6, .int y6), (7, .int y7)]) hl [0, 1, 2, 3, 4] rfl)
        · have h := ifp h c3
          refine lv_iload hx hb dX4_choose_65 (lv_at hl 4 rfl) ?_
          refine lv_iload hx hb dX4_choose_67 (lv_at hl 2 rfl) ?_
          refine lv_iconst (v := (-1)) hx hb dX4_choose_69 (by decide) ?_
          refine lv_ixor hx hb dX4_choose_70 ?_
          refine lv_iand hx hb dX4_choose_71 ?_
          refine lv_if_ne (tgt := 79) hx hb dX4_choose_72 (by decide) (fun c4 => ?_) (fun c4 => ?_)
          · have h := ifn h c4
            exact F79 (fun w_g_count w_g_kept w_g_kinds w_g_positions u4 u5 u6 u7 => lX4_choose_46 k_argumentCounts k_kinds d_keptSet d_count d_sources n w_g_count w_g_kept w_g_kinds w_g_positions u4 u5 u6 u7) (fun H locs w_g_count w_g_kept w_g_kinds w_g_positions u4 u5 u6 u7 h hP hD hS ls hl => ih H locs w_g_count w_g_kept w_g_kinds w_g_positions u4 u5 u6 u7 h hP hD hS ls hl) H locs g_count g_kept g_kinds g_positions y4 y5 y6 y7 h hP hD hS ls (lv_sub (l' := [(0, .ref a_g), (4, .int y4), (5, .int y5), (6, .int y6), (7, .int y7)]) hl [0, 1, 2, 3, 4] rfl)
          · have h := ifp h c4
            refine lv_iconst (v := 1) hx hb dX4_choose_75 (by decide) ?_
            refine lv_goto (tgt := 80) hx hb dX4_choose_76 (by decide) ?_
            exact F80 (fun w_g_count w_g_kept w_g_kinds w_g_positions u4 u5 u6 u7 => lX4_choose_46 k_argumentCounts k_kinds d_keptSet d_count d_sources n w_g_count w_g_kept w_g_kinds w_g_positions u4 u5 u6 u7) (fun H locs w_g_count w_g_kept w_g_kinds w_g_positions u4 u5 u6 u7 h hP hD hS ls hl => ih H locs w_g_count w_g_kept w_g_kinds w_g_positions u4 u5 u6 u7 h hP hD hS ls hl) H locs g_count g_kept g_kinds g_positions y4 y5 y6 y7 1 h hP hD hS ls (lv_sub (l' := [(0, .ref a_g), (4, .int y4), (5, .int y5), (6, .int y6), (7, .int y7)]) hl [0, 1, 2, 3, 4] rfl)
  unfold fX4_choose at h
  refine lv_aload_n hx hb dX4_choose_0 rfl (lv_at hl 0 rfl) ?_
  refine lv_aload_n hx hb dX4_choose_1 rfl (lv_at hl 1 rfl) ?_
  refine lv_iload_n hx hb dX4_choose_2 rfl (lv_at hl 2 rfl) ?_
  refine lv_aload_n hx hb dX4_choose_3 rfl (lv_at hl 3 rfl) ?_
  obtain ⟨g1, g2, g3, g4, eg1, h⟩ := bn4_some h
  refine kVI (As := [.ref a_k, .int x2, .ref a_d]) (rest := []) (st1 := []) SS hKK (qX4_look l D cI cM a_g a_g_kinds a_g_positions a_k a_k_staticType a_k_dynamicType a_k_target a_k_argumentCounts a_k_temporaryCounts a_k_keys a_k_kinds a_k_values a_k_temporaryKinds a_k_newKinds a_k_newValues a_d a_d_sources a_d_keys a_d_defaults g_count g_kept g_kinds g_positions k_count k_frozenSet k_staticType k_dynamicType k_target k_argumentCounts k_temporaryCounts k_keys k_kinds k_values k_temporaryKinds k_newKinds k_newValues d_open d_method d_family d_oldCount d_keptSet d_count d_sources d_keys d_defaults d_usedKeys x2 g1 g2 g3 g4 eg1) cw18 hP hD hS [0, 1, 2, 3, 4, 5, 6, 7, 8, 9, 10, 11, 12, 13, 14, 15, 16, 17, 18] rfl rfl rfl rfl 0 4 rfl rfl rfl hl.1 rfl (Nat.le_of_ble_eq_true rfl) dX4_choose_4 ⟨Nat.zero_le _, Nat.zero_le _⟩ rfl (fun H locs hP hD hS => ?_)
  have hP : va_P D vwCl (W_g_k_d cI cM a_g a_g_kinds a_g_positions a_k a_k_staticType a_k_dynamicType a_k_target a_k_argumentCounts a_k_temporaryCounts a_k_keys a_k_kinds a_k_values a_k_temporaryKinds a_k_newKinds a_k_newValues a_d a_d_sources a_d_keys a_d_defaults g1 g2 g3 g4 k_count k_frozenSet k_staticType k_dynamicType k_target k_argumentCounts k_temporaryCounts k_keys k_kinds k_values k_temporaryKinds k_newKinds k_newValues d_open d_method d_family d_oldCount d_keptSet d_count d_sources d_keys d_defaults d_usedKeys) H := hP
  have hD : va_D _ (W_g_k_d cI cM a_g a_g_kinds a_g_positions a_k a_k_staticType a_k_dynamicType a_k_target a_k_argumentCounts a_k_temporaryCounts a_k_keys a_k_kinds a_k_values a_k_temporaryKinds a_k_newKinds a_k_newValues a_d a_d_sources a_d_keys a_d_defaults g1 g2 g3 g4 k_count k_frozenSet k_staticType k_dynamicType k_target k_argumentCounts k_temporaryCounts k_keys k_kinds k_values k_temporaryKinds k_newKinds k_newValues d_open d_method d_family d_oldCount d_keptSet d_count d_sources d_keys d_defaults d_usedKeys) := hD
  refine lv_aload_n hx hb dX4_choose_7 rfl (lv_at hl 0 rfl) ?_
  refine lv_iconst (v := 2) hx hb dX4_choose_8 (by decide) ?_
  obtain ⟨v5, ev5, h⟩ := bn_some h
  have hs6 : va_P D vwCl (W_g cI cM a_g a_g_kinds a_g_positions g1 g2 g3 g4) _ := hP.sub (ws' := W_g cI cM a_g a_g_kinds a_g_positions g1 g2 g3 g4) [0, 1, 2] rfl
  refine kV (As := [.int 2]) (rest := []) SS hKK (qX4_ofKind l D cI cM a_g a_g_kinds a_g_positions g1 g2 g3 g4 2 v5 ev5) cw22 hs6 0 4 rfl rfl rfl hl.1 rfl (Nat.le_of_ble_eq_true rfl) dX4_choose_9 ⟨Nat.zero_le _, Nat.zero_le _⟩ ?_
  refine lv_aload_n hx hb dX4_choose_12 rfl (lv_at hl 0 rfl) ?_
  refine va_get (D := D) (ci := 4) (v := .int g2) (C := RX4) (T := TX4) (N := 4) hx hb hts hinX4 hown hKK.1 hP 0 rfl rfl 1 (by decide) lk26 (fun _ h9 => h9) rfl dX4_choose_13 ?_
  refine lv_iconst (v := (-1)) hx hb dX4_choose_16 (by decide) ?_
  refine lv_ixor hx hb dX4_choose_17 ?_
  refine lv_iand hx hb dX4_choose_18 ?_
  refine lv_istore (lv' := [(4, .int (v5 &&& (g2 ^^^ (-1)))), (0, .ref a_g), (1, .ref a_k), (2, .int x2), (3, .ref a_d)]) hx hb dX4_choose_19 hl (by decide) rfl (fun ls hl => ?_)
  refine lv_aload_n hx hb dX4_choose_21 rfl (lv_at hl 1 rfl) ?_
  refine lv_iconst (v := 2) hx hb dX4_choose_22 (by decide) ?_
  obtain ⟨v7, ev7, h⟩ := bn_some h
  refine kV (As := [.int 2]) (rest := []) SS hKK (qX4_ofKind l D cI cM a_g a_g_kinds a_g_positions g1 g2 g3 g4 2 v7 ev7) cw22 hs6 0 4 rfl rfl rfl hl.1 rfl (Nat.le_of_ble_eq_true rfl) dX4_choose_23 ⟨Nat.zero_le _, Nat.zero_le _⟩ ?_
  refine lv_aload_n hx hb dX4_choose_26 rfl (lv_at hl 1 rfl) ?_
  refine lv_iconst (v := 1) hx hb dX4_choose_27 (by decide) ?_
  obtain ⟨v8, ev8, h⟩ := bn_some h
  refine kV (As := [.int 1]) (rest := [.int v7]) SS hKK (qX4_ofKind l D cI cM a_g a_g_kinds a_g_positions g1 g2 g3 g4 1 v8 ev8) cw22 hs6 0 4 rfl rfl rfl hl.1 rfl (Nat.le_of_ble_eq_true rfl) dX4_choose_28 ⟨Nat.zero_le _, Nat.zero_le _⟩ ?_
  refine lv_aload_n hx hb dX4_choose_31 rfl (lv_at hl 1 rfl) ?_
  refine va_get (D := D) (ci := 4) (v := .int g2) (C := RX4) (T := TX4) (N := 4) hx hb hts hinX4 hown hKK.1 hP 0 rfl rfl 1 (by decide) lk26 (fun _ h9 => h9) rfl dX4_choose_32 ?_
  refine lv_iand hx hb dX4_choose_35 ?_
  refine lv_ior hx hb dX4_choose_36 ?_
  refine lv_istore (lv' := [(5, .int (v7 ||| (v8 &&& g2))), (4, .int (v5 &&& (g2 ^^^ (-1)))), (0, .ref a_g), (1, .ref a_k), (2, .int x2), (3, .ref a_d)]) hx hb dX4_choose_37 hl (by decide) rfl (fun ls hl => ?_)
  refine lv_iload hx hb dX4_choose_39 (lv_at hl 0 rfl) ?_
  refine lv_istore (lv' := [(6, .int (v7 ||| (v8 &&& g2))), (5, .int (v7 ||| (v8 &&& g2))), (4, .int (v5 &&& (g2 ^^^ (-1)))), (0, .ref a_g), (1, .ref a_k), (2, .int x2), (3, .ref a_d)]) hx hb dX4_choose_41 hl (by decide) rfl (fun ls hl => ?_)
  refine lv_iconst (v := 0) hx hb dX4_choose_43 (by decide) ?_
  refine lv_istore (lv' := [(7, .int 0), (6, .int (v7 ||| (v8 &&& g2))), (5, .int (v7 ||| (v8 &&& g2))), (4, .int (v5 &&& (g2 ^^^ (-1)))), (0, .ref a_g), (1, .ref a_k), (2, .int x2), (3, .ref a_d)]) hx hb dX4_choose_44 hl (by decide) rfl (fun ls hl => ?_)
  exact F46 5000 H locs g1 g2 g3 g4 (v5 &&& (g2 ^^^ (-1))) (v7 ||| (v8 &&& g2)) (v7 ||| (v8 &&& g2)) 0 h hP hD hS ls (lv_sub (l' := [(0, .ref a_g), (4, .int (v5 &&& (g2 ^^^ (-1)))), (5, .int (v7 ||| (v8 &&& g2))), (6, .int (v7 ||| (v8 &&& g2))), (7, .int 0)]) hl [4, 3, 2, 1, 0] rfl)
set_option maxHeartbeats 8000000 in
set_option maxRecDepth 100000 in
theorem qX5_exists (l : Launch) (D : va_G) (cI cM : ClassId) (a_m a_m_type a_m_name a_m_arity a_m_keys a_m_defaults : Nat) (m_count : Int32) (m_type : Nat → Int32) (m_name : Nat → Int32) (m_arity : Nat → Int32) (m_keys : Nat → Int32) (m_defaults : Nat → Int32) (x1 : Int32) (r : Int32) (h : fX5_exists m_count x1 = some r) : PM l yX5_exists wsX5_exists rmX5_exists D cI cM [.ref a_m, .int x1] (W_m cI cM a_m a_m_type a_m_name a_m_arity a_m_keys a_m_defaults m_count m_type m_name m_arity m_keys m_defaults) r := by
  refine PM.of (cc := cX5_exists) (maxL := 2) (ret := (some .boolean)) (by decide) rfl (Nat.le_of_ble_eq_true rfl) ?_
  intro p e s m below meth c ls hx hb hr hml hown hts hlk hP hKK hl
  have hown : s.vm.findClass RX5 = some m.cls := hown
  have hl : lv_has ls 2 [(0, .ref a_m), (1, .int x1)] := hl
  generalize hav : ([.ref a_m, .int x1] : List Value) = av at hts ⊢
  have SS : CallFix p m c cX5_exists 2 s av.toArray wsX5_exists RX5 := ⟨hx, hb, hml, hown, hts⟩
  have hinX5 : ∀ w ∈ u_ws RX5 TX5 6, w ∈ wsX5_exists := by decide +kernel
  have lk27 := hts (.fieldLink RX5 27 "SignatureChanger$Methods" "count" "I") (List.mem_of_getElem? (i := 1) rfl)
  unfold fX5_exists at h
  refine lv_iload_n hx hb dX5_exists_0 rfl (lv_at hl 1 rfl) ?_
  refine lv_if_lt (tgt := 16) hx hb dX5_exists_1 (by decide) (fun c1 => ?_) (fun c1 => ?_)
  · have h := ifp h c1
    refine lv_iconst (v := 0) hx hb dX5_exists_16 (by decide) ?_
    exact kRetZ hx hb hr hlk rfl (Option.some.inj h) dX5_exists_17
  · have h := ifn h c1
    refine lv_iload_n hx hb dX5_exists_4 rfl (lv_at hl 1 rfl) ?_
    refine lv_aload_n hx hb dX5_exists_5 rfl (lv_at hl 0 rfl) ?_
    refine va_get (D := D) (ci := 5) (v := .int m_count) (C := RX5) (T := TX5) (N := 6) hx hb hts hinX5 hown hKK.1 hP 0 rfl rfl 0 (by decide) lk27 (fun _ h9 => h9) rfl dX5_exists_6 ?_
    refine lv_icmp_ge (tgt := 16) hx hb dX5_exists_9 (by decide) (fun c2 => ?_) (fun c2 => ?_)
    · have h := ifp h c2
      refine lv_iconst (v := 0) hx hb dX5_exists_16 (by decide) ?_
      exact kRetZ hx hb hr hlk rfl (Option.some.inj h) dX5_exists_17
    · have h := ifn h c2
      refine lv_iconst (v := 1) hx hb dX5_exists_12 (by decide) ?_
      refine lv_goto (tgt := 17) hx hb dX5_exists_13 (by decide) ?_
      exact kRetZ hx hb hr hlk rfl (Option.some.inj h) dX5_exists_17
set_option maxHeartbeats 8000000 in
set_option maxRecDepth 100000 in
theorem qX5_withSignature (l : Launch) (D : va_G) (cI cM : ClassId) (a_m a_m_type a_m_name a_m_arity a_m_keys a_m_defaults : Nat) (m_count : Int32) (m_type : Nat → Int32) (m_name : Nat → Int32) (m_arity : Nat → Int32) (m_keys : Nat → Int32) (m_defaults : Nat → Int32) (x1 : Int32) (x2 : Int32) (x3 : Int32) (r : Int32) (h : fX5_withSignature m_count m_type m_name m_arity x1 x2 x3 = some r) : PM l yX5_withSignature wsX5_withSignature rmX5_withSignature D cI cM [.ref a_m, .int x1, .int x2, .int x3] (W_m cI cM a_m a_m_type a_m_name a_m_arity a_m_keys a_m_defaults m_count m_type m_name m_arity m_keys m_defaults) r := by
  refine PM.of (cc := cX5_withSignature) (maxL := 7) (ret := (some .int)) (by decide) rfl (Nat.le_of_ble_eq_true rfl) ?_
  intro p e s m below meth c ls hx hb hr hml hown hts hlk hP hKK hl
  have hown : s.vm.findClass RX5 = some m.cls := hown
  have hl : lv_has ls 7 [(0, .ref a_m), (1, .int x1), (2, .int x2), (3, .int x3)] := hl
  generalize hav : ([.ref a_m, .int x1, .int x2, .int x3] : List Value) = av at hts ⊢
  have SS : CallFix p m c cX5_withSignature 7 s av.toArray wsX5_withSignature RX5 := ⟨hx, hb, hml, hown, hts⟩
  have hinX5 : ∀ w ∈ u_ws RX5 TX5 6, w ∈ wsX5_withSignature := by decide +kernel
  have lk9 := hts (.fieldLink RX5 9 "SignatureChanger$Methods" "type" "[I") (List.mem_of_getElem? (i := 4) rfl)
  have lk15 := hts (.fieldLink RX5 15 "SignatureChanger$Methods" "name" "[I") (List.mem_of_getElem? (i := 2) rfl)
  have lk18 := hts (.fieldLink RX5 18 "SignatureChanger$Methods" "arity" "[I") (List.mem_of_getElem? (i := 3) rfl)
  have lk27 := hts (.fieldLink RX5 27 "SignatureChanger$Methods" "count" "I") (List.mem_of_getElem? (i := 1) rfl)
  have cw35 : va_CN rmX5_withSignature s av.toArray RX5 35 yX8_bit RX8 cX8_bit 1 (some .int) wsX8_bit rmX8_bit 0 0 1 ∧ (Cond.static yX8_bit).before av.toArray s = true ∧ True := ⟨va_cnB 1 hts gX5_withSignature_X8_bit_n35 rfl rfl rfl (hKK.2.at 10 rfl) (hts (.initialized RX8) (List.mem_of_getElem? (i := 6) rfl)) (by decide +kernel) ⟨Nat.le_of_ble_eq_true rfl, Nat.le_of_ble_eq_true rfl⟩, hts (.static yX8_bit) (List.mem_of_getElem? (i := 8) rfl), trivial⟩
  have cw39 : va_CN rmX5_withSignature s av.toArray RX5 39 yX8_contains RX8 cX8_contains 2 (some .boolean) wsX8_contains rmX8_contains 0 0 2 ∧ (Cond.static yX8_contains).before av.toArray s = true ∧ True := ⟨va_cnB 2 hts gX5_withSignature_X8_contains_n39 rfl rfl rfl (hKK.2.at 9 rfl) (hts (.initialized RX8) (List.mem_of_getElem? (i := 6) rfl)) (by decide +kernel) ⟨Nat.le_of_ble_eq_true rfl, Nat.le_of_ble_eq_true rfl⟩, hts (.static yX8_contains) (List.mem_of_getElem? (i := 5) rfl), trivial⟩
  have F42 : ∀ (k6 : Int32 → Int32 → Int32 → Int32 → Int32 → Option (Int32)) (hk6 : ∀ (u1 : Int32) (u2 : Int32) (u3 : Int32) (u4 : Int32) (u5 : Int32), k6 u1 u2 u3 u4 u5 = some r → ∀ ls : Array Slot, lv_has ls 7 [(0, .ref a_m), (1, .int u1), (2, .int u2), (3, .int u3), (4, .int u4), (5, .int u5)] → WP p l e rmX5_withSignature s m av below meth c r 6 ls []), ∀ (y1 : Int32) (y2 : Int32) (y3 : Int32) (y4 : Int32) (y5 : Int32) (s0 : Int32), jX5_withSignature_42 m_count m_type m_name m_arity k6 y1 y2 y3 y4 y5 s0 = some r → ∀ ls : Array Slot, lv_has ls 7 [(0, .ref a_m), (1, .int y1), (2, .int y2), (3, .int y3), (4, .int y4), (5, .int y5)] → WP p l e rmX5_withSignature s m av below meth c r 42 ls [.int s0] := by
    intro k6 hk6
    intro y1 y2 y3 y4 y5 s0 h ls hl
    unfold jX5_withSignature_42 at h
    refine lv_istore (lv' := [(6, .int s0), (0, .ref a_m), (1, .int y1), (2, .int y2), (3, .int y3), (4, .int y4), (5, .int y5)]) hx hb dX5_withSignature_42 hl (by decide) rfl (fun ls hl => ?_)
    refine lv_iload hx hb dX5_withSignature_44 (lv_at hl 0 rfl) ?_
    refine lv_if_eq (tgt := 73) hx hb dX5_withSignature_46 (by decide) (fun c1 => ?_) (fun c1 => ?_)
    · have h := ifp h c1
      refine lv_iinc (v := y5 + 1) (lv' := [(5, .int (y5 + 1)), (6, .int s0), (0, .ref a_m), (1, .int y1), (2, .int y2), (3, .int y3), (4, .int y4)]) hx hb dX5_withSignature_73 hl (k := 6) rfl rfl (by decide) rfl (fun ls hl => ?_)
      refine lv_goto (tgt := 6) hx hb dX5_withSignature_76 (by decide) ?_
      exact hk6 y1 y2 y3 y4 (y5 + 1) h ls (lv_sub (l' := [(0, .ref a_m), (1, .int y1), (2, .int y2), (3, .int y3), (4, .int y4), (5, .int (y5 + 1))]) hl [2, 3, 4, 5, 6, 0] rfl)
    · have h := ifn h c1
      refine lv_iload_n hx hb dX5_withSignature_49 rfl (lv_at hl 4 rfl) ?_
      refine lv_aload_n hx hb dX5_withSignature_50 rfl (lv_at hl 1 rfl) ?_
      refine va_get (D := D) (ci := 5) (v := .ref a_m_type) (C := RX5) (T := TX5) (N := 6) hx hb hts hinX5 hown hKK.1 hP 0 rfl rfl 1 (by decide) lk9 (fun _ h9 => h9) rfl dX5_withSignature_51 ?_
      refine lv_iload hx hb dX5_withSignature_54 (lv_at hl 6 rfl) ?_
      obtain ⟨v2, iv2, ev2, h⟩ := rd_some h
      refine kAld hx hb hKK hP 1 rfl iv2 ev2 dX5_withSignature_56 ?_
      obtain ⟨v3, ev3, h⟩ := bn_some h
      refine kSN (As := [.int y3, .int v2]) (rest := []) SS hKK (qX8_contains l D cI cM y3 v2 v3 ev3) cw39 va_P_nil rfl hl.1 rfl (Nat.le_of_ble_eq_true rfl) dX5_withSignature_57 ⟨Nat.zero_le _, Nat.zero_le _⟩ ?_
      refine lv_if_eq (tgt := 73) hx hb dX5_withSignature_60 (by decide) (fun c4 => ?_) (fun c4 => ?_)
      · have h := ifp h c4
        refine lv_iinc (v := y5 + 1) (lv' := [(5, .int (y5 + 1)), (6, .int s0), (0, .ref a_m), (1, .int y1), (2, .int y2), (3, .int y3), (4, .int y4)]) hx hb dX5_withSignature_73 hl (k := 6) rfl rfl (by decide) rfl (fun ls hl => ?_)
        refine lv_goto (tgt := 6) hx hb dX5_withSignature_76 (by decide) ?_
        exact hk6 y1 y2 y3 y4 (y5 + 1) h ls (lv_sub (l' := [(0, .ref a_m), (1, .int y1), (2, .int y2), (3, .int y3), (4, .int y4), (5, .int (y5 + 1))]) hl [2, 3, 4, 5, 6, 0] rfl)
      · have h := ifn h c4
        refine lv_iload hx hb dX5_withSignature_63 (lv_at hl 5 rfl) ?_
        refine lv_iload hx hb dX5_withSignature_65 (lv_at hl 6 rfl) ?_
        obtain ⟨v5, ev5, h⟩ := bn_some h
        refine kSN (As := [.int y5]) (rest := [.int y4]) SS hKK (qX8_bit l D cI cM y5 v5 ev5) cw35 va_P_nil rfl hl.1 rfl (Nat.le_of_ble_eq_true rfl) dX5_withSignature_67 ⟨Nat.zero_le _, Nat.zero_le _⟩ ?_
        refine lv_ior hx hb dX5_withSignature_70 ?_
        refine lv_istore (lv' := [(4, .int (y4 ||| v5)), (6, .int s0), (0, .ref a_m), (1, .int y1), (2, .int y2), (3, .int y3), (5, .int y5)]) hx hb dX5_withSignature_71 hl (by decide) rfl (fun ls hl => ?_)
        refine lv_iinc (v := y5 + 1) (lv' := [(5, .int (y5 + 1)), (4, .int (y4 ||| v5)), (6, .int s0), (0, .ref a_m), (1, .int y1), (2, .int y2), (3, .int y3)]) hx hb dX5_withSignature_73 hl (k := 6) rfl rfl (by decide) rfl (fun ls hl => ?_)
        refine lv_goto (tgt := 6) hx hb dX5_withSignature_76 (by decide) ?_
        exact hk6 y1 y2 y3 (y4 ||| v5) (y5 + 1) h ls (lv_sub (l' := [(0, .ref a_m), (1, .int y1), (2, .int y2), (3, .int y3), (4, .int (y4 ||| v5)), (5, .int (y5 + 1))]) hl [3, 4, 5, 6, 1, 0] rfl)
  have F41 : ∀ (k6 : Int32 → Int32 → Int32 → Int32 → Int32 → Option (Int32)) (hk6 : ∀ (u1 : Int32) (u2 : Int32) (u3 : Int32) (u4 : Int32) (u5 : Int32), k6 u1 u2 u3 u4 u5 = some r → ∀ ls : Array Slot, lv_has ls 7 [(0, .ref a_m), (1, .int u1), (2, .int u2), (3, .int u3), (4, .int u4), (5, .int u5)] → WP p l e rmX5_withSignature s m av below meth c r 6 ls []), ∀ (y1 : Int32) (y2 : Int32) (y3 : Int32) (y4 : Int32) (y5 : Int32), jX5_withSignature_41 m_count m_type m_name m_arity k6 y1 y2 y3 y4 y5 = some r → ∀ ls : Array Slot, lv_has ls 7 [(0, .ref a_m), (1, .int y1), (2, .int y2), (3, .int y3), (4, .int y4), (5, .int y5)] → WP p l e rmX5_withSignature s m av below meth c r 41 ls [] := by
    intro k6 hk6
    intro y1 y2 y3 y4 y5 h ls hl
    unfold jX5_withSignature_41 at h
    refine lv_iconst (v := 0) hx hb dX5_withSignature_41 (by decide) ?_
    exact F42 k6 hk6 y1 y2 y3 y4 y5 0 h ls (lv_sub (l' := [(0, .ref a_m), (1, .int y1), (2, .int y2), (3, .int y3), (4, .int y4), (5, .int y5)]) hl [0, 1, 2, 3, 4, 5] rfl)
  have F6 : ∀ (n : Nat) (y1 : Int32) (y2 : Int32) (y3 : Int32) (y4 : Int32) (y5 : Int32), lX5_withSignature_6 m_count m_type m_name m_arity n y1 y2 y3 y4 y5 = some r → ∀ ls : Array Slot, lv_has ls 7 [(0, .ref a_m), (1, .int y1), (2, .int y2), (3, .int y3), (4, .int y4), (5, .int y5)] → WP p l e rmX5_withSignature s m av below meth c r 6 ls [] := by
    intro n
    induction n with
    | zero => intro y1 y2 y3 y4 y5 h; exact no_some h
    | succ n ih =>
      intro y1 y2 y3 y4 y5 h ls hl
      rw [lX5_withSignature_6_s] at h
      refine lv_iload hx hb dX5_withSignature_6 (lv_at hl 5 rfl) ?_
      refine lv_aload_n hx hb dX5_withSignature_8 rfl (lv_at hl 0 rfl) ?_
      refine va_get (D := D) (ci := 5) (v := .int m_count) (C := RX5) (T := TX5) (N := 6) hx hb hts hinX5 hown hKK.1 hP 0 rfl rfl 0 (by decide) lk27 (fun _ h9 => h9) rfl dX5_withSignature_9 ?_
      refine lv_icmp_ge (tgt := 79) hx hb dX5_withSignature_12 (by decide) (fun c1 => ?_) (fun c1 => ?_)
      · have h := ifp h c1
        refine lv_iload hx hb dX5_withSignature_79 (lv_at hl 4 rfl) ?_
        exact kRet hx hb hr hlk (Option.some.inj h) dX5_withSignature_81
      · have h := ifn h c1
        refine lv_aload_n hx hb dX5_withSignature_15 rfl (lv_at hl 0 rfl) ?_
        refine va_get (D := D) (ci := 5) (v := .ref a_m_name) (C := RX5) (T := TX5) (N := 6) hx hb hts hinX5 hown hKK.1 hP 0 rfl rfl 2 (by decide) lk15 (fun _ h9 => h9) rfl dX5_withSignature_16 ?_
        refine lv_iload hx hb dX5_withSignature_19 (lv_at hl 5 rfl) ?_
        obtain ⟨v2, iv2, ev2, h⟩ := rd_some h
        refine kAld hx hb hKK hP 2 rfl iv2 ev2 dX5_withSignature_21 ?_
        refine lv_iload_n hx hb dX5_withSignature_22 rfl (lv_at hl 1 rfl) ?_
        refine lv_icmp_ne (tgt := 41) hx hb dX5_withSignature_23 (by decide) (fun c3 => ?_) (fun c3 => ?_)
        · have h := ifn h c3
          exact F41 (fun u1 u2 u3 u4 u5 => lX5_withSignature_6 m_count m_type m_name m_arity n u1 u2 u3 u4 u5) (fun u1 u2 u3 u4 u5 h ls hl => ih u1 u2 u3 u4 u5 h ls hl) y1 y2 y3 y4 y5 h ls (lv_sub (l' := [(0, .ref a_m), (1, .int y1), (2, .int y2), (3, .int y3), (4, .int y4), (5, .int y5)]) hl [0, 1, 2, 3, 4, 5] rfl)
        · have h := ifp h c3
          refine lv_aload_n hx hb dX5_withSignature_26 rfl (lv_at hl 0 rfl) ?_
          refine va_get (D := D) (ci := 5) (v := .ref a_m_arity) (C := RX5) (T := TX5) (N := 6) hx hb hts hinX5 hown hKK.1 hP 0 rfl rfl 3 (by decide) lk18 (fun _ h9 => h9) rfl dX5_withSignature_27 ?_
          refine lv_iload hx hb dX5_withSignature_30 (lv_at hl 5 rfl) ?_
          obtain ⟨v4, iv4, ev4, h⟩ := rd_some h
          refine kAld hx hb hKK hP 3 rfl iv4 ev4 dX5_withSignature_32 ?_
          refine lv_iload_n hx hb dX5_withSignature_33 rfl (lv_at hl 2 rfl) ?_
          refine lv_icmp_ne (tgt := 41) hx hb dX5_withSignature_34 (by decide) (fun c5 => ?_) (fun c5 => ?_)
          · have h := ifn h c5
            exact F41 (fun u1 u2 u3 u4 u5 => lX5_withSignature_6 m_count m_type m_name m_arity n u1 u2 u3 u4 u5) (fun u1 u2 u3 u4 u5 h ls hl => ih u1 u2 u3 u4 u5 h ls hl) y1 y2 y3 y4 y5 h ls (lv_sub (l' := [(0, .ref a_m), (1, .int y1), (2, .int y2), (3, .int y3), (4, .int y4), (5, .int y5)]) hl [0, 1, 2, 3, 4, 5] rfl)
          · have h := ifp h c5
            refine lv_iconst (v := 1) hx hb dX5_withSignature_37 (by decide) ?_
            refine lv_goto (tgt := 42) hx hb dX5_withSignature_38 (by decide) ?_
            exact F42 (fun u1 u2 u3 u4 u5 => lX5_withSignature_6 m_count m_type m_name m_arity n u1 u2 u3 u4 u5) (fun u1 u2 u3 u4 u5 h ls hl => ih u1 u2 u3 u4 u5 h ls hl) y1 y2 y3 y4 y5 1 h ls (lv_sub (l' := [(0, .ref a_m), (1, .int y1), (2, .int y2), (3, .int y3), (4, .int y4), (5, .int y5)]) hl [0, 1, 2, 3, 4, 5] rfl)
  unfold fX5_withSignature at h
  refine lv_iconst (v := 0) hx hb dX5_withSignature_0 (by decide) ?_
  refine lv_istore (lv' := [(4, .int 0), (0, .ref a_m), (1, .int x1), (2, .int x2), (3, .int x3)]) hx hb dX5_withSignature_1 hl (by decide) rfl (fun ls hl => ?_)
  refine lv_iconst (v := 0) hx hb dX5_withSignature_3 (by decide) ?_
  refine lv_istore (lv' := [(5, .int 0), (4, .int 0), (0, .ref a_m), (1, .int x1), (2, .int x2), (3, .int x3)]) hx hb dX5_withSignature_4 hl (by decide) rfl (fun ls hl => ?_)
  exact F6 5000 x1 x2 x3 0 0 h ls (lv_sub (l' := [(0, .ref a_m), (1, .int x1), (2, .int x2), (3, .int x3), (4, .int 0), (5, .int 0)]) hl [2, 3, 4, 5, 1, 0] rfl)
set_option maxHeartbeats 8000000 in
set_option maxRecDepth 100000 in
theorem qX5_smallest (l : Launch) (D : va_G) (cI cM : ClassId) (a_m a_m_type a_m_name a_m_arity a_m_keys a_m_defaults : Nat) (m_count : Int32) (m_type : Nat → Int32) (m_name : Nat → Int32) (m_arity : Nat → Int32) (m_keys : Nat → Int32) (m_defaults : Nat → Int32) (x1 : Int32) (r : Int32) (h : fX5_smallest m_count x1 = some r) : PM l yX5_smallest wsX5_smallest rmX5_smallest D cI cM [.ref a_m, .int x1] (W_m cI cM a_m a_m_type a_m_name a_m_arity a_m_keys a_m_defaults m_count m_type m_name m_arity m_keys m_defaults) r := by
  refine PM.of (cc := cX5_smallest) (maxL := 3) (ret := (some .int)) (by decide) rfl (Nat.le_of_ble_eq_true rfl) ?_
  intro p e s m below meth c ls hx hb hr hml hown hts hlk hP hKK hl
  have hown : s.vm.findClass RX5 = some m.cls := hown
  have hl : lv_has ls 3 [(0, .ref a_m), (1, .int x1)] := hl
  generalize hav : ([.ref a_m, .int x1] : List Value) = av at hts ⊢
  have SS : CallFix p m c cX5_smallest 3 s av.toArray wsX5_smallest RX5 := ⟨hx, hb, hml, hown, hts⟩
  have hinX5 : ∀ w ∈ u_ws RX5 TX5 6, w ∈ wsX5_smallest := by decide +kernel
  have lk27 := hts (.fieldLink RX5 27 "SignatureChanger$Methods" "count" "I") (List.mem_of_getElem? (i := 1) rfl)
  have cw39 : va_CN rmX5_smallest s av.toArray RX5 39 yX8_contains RX8 cX8_contains 2 (some .boolean) wsX8_contains rmX8_contains 0 0 2 ∧ (Cond.static yX8_contains).before av.toArray s = true ∧ True := ⟨va_cnB 2 hts gX5_smallest_X8_contains_n39 rfl rfl rfl (hKK.2.at 9 rfl) (hts (.initialized RX8) (List.mem_of_getElem? (i := 3) rfl)) (by decide +kernel) ⟨Nat.le_of_ble_eq_true rfl, Nat.le_of_ble_eq_true rfl⟩, hts (.static yX8_contains) (List.mem_of_getElem? (i := 2) rfl), trivial⟩
  have F2 : ∀ (n : Nat) (y1 : Int32) (y2 : Int32), lX5_smallest_2 m_count n y1 y2 = some r → ∀ ls : Array Slot, lv_has ls 3 [(0, .ref a_m), (1, .int y1), (2, .int y2)] → WP p l e rmX5_smallest s m av below meth c r 2 ls [] := by
    intro n
    induction n with
    | zero => intro y1 y2 h; exact no_some h
    | succ n ih =>
      intro y1 y2 h ls hl
      rw [lX5_smallest_2_s] at h
      refine lv_iload_n hx hb dX5_smallest_2 rfl (lv_at hl 2 rfl) ?_
      refine lv_aload_n hx hb dX5_smallest_3 rfl (lv_at hl 0 rfl) ?_
      refine va_get (D := D) (ci := 5) (v := .int m_count) (C := RX5) (T := TX5) (N := 6) hx hb hts hinX5 hown hKK.1 hP 0 rfl rfl 0 (by decide) lk27 (fun _ h9 => h9) rfl dX5_smallest_4 ?_
      refine lv_icmp_ge (tgt := 26) hx hb dX5_smallest_7 (by decide) (fun c1 => ?_) (fun c1 => ?_)
      · have h := ifp h c1
        refine lv_bipush (v := (-9)) hx hb dX5_smallest_26 (by decide) ?_
        exact kRet hx hb hr hlk (Option.some.inj h) dX5_smallest_28
      · have h := ifn h c1
        refine lv_iload_n hx hb dX5_smallest_10 rfl (lv_at hl 1 rfl) ?_
        refine lv_iload_n hx hb dX5_smallest_11 rfl (lv_at hl 2 rfl) ?_
        obtain ⟨v2, ev2, h⟩ := bn_some h
        refine kSN (As := [.int y1, .int y2]) (rest := []) SS hKK (qX8_contains l D cI cM y1 y2 v2 ev2) cw39 va_P_nil rfl hl.1 rfl (Nat.le_of_ble_eq_true rfl) dX5_smallest_12 ⟨Nat.zero_le _, Nat.zero_le _⟩ ?_
        refine lv_if_eq (tgt := 20) hx hb dX5_smallest_15 (by decide) (fun c3 => ?_) (fun c3 => ?_)
        · have h := ifp h c3
          refine lv_iinc (v := y2 + 1) (lv' := [(2, .int (y2 + 1)), (0, .ref a_m), (1, .int y1)]) hx hb dX5_smallest_20 hl (k := 2) rfl rfl (by decide) rfl (fun ls hl => ?_)
          refine lv_goto (tgt := 2) hx hb dX5_smallest_23 (by decide) ?_
          exact ih y1 (y2 + 1) h ls (lv_sub (l' := [(0, .ref a_m), (1, .int y1), (2, .int (y2 + 1))]) hl [1, 2, 0] rfl)
        · have h := ifn h c3
          refine lv_iload_n hx hb dX5_smallest_18 rfl (lv_at hl 2 rfl) ?_
          exact kRet hx hb hr hlk (Option.some.inj h) dX5_smallest_19
  unfold fX5_smallest at h
  refine lv_iconst (v := 0) hx hb dX5_smallest_0 (by decide) ?_
  refine lv_istore_n (lv' := [(2, .int 0), (0, .ref a_m), (1, .int x1)]) hx hb dX5_smallest_1 rfl hl (by decide) rfl (fun ls hl => ?_)
  exact F2 5000 x1 0 h ls (lv_sub (l' := [(0, .ref a_m), (1, .int x1), (2, .int 0)]) hl [1, 2, 0] rfl)
set_option maxHeartbeats 8000000 in
set_option maxRecDepth 100000 in
theorem qX5_declaredBy (l : Launch) (D : va_G) (cI cM : ClassId) (a_m a_m_type a_m_name a_m_arity a_m_keys a_m_defaults : Nat) (m_count : Int32) (m_type : Nat → Int32) (m_name : Nat → Int32) (m_arity : Nat → Int32) (m_keys : Nat → Int32) (m_defaults : Nat → Int32) (x1 : Int32) (x2 : Int32) (x3 : Int32) (r : Int32) (h : fX5_declaredBy m_count m_type m_name m_arity x1 x2 x3 = some r) : PM l yX5_declaredBy wsX5_declaredBy rmX5_declaredBy D cI cM [.ref a_m, .int x1, .int x2, .int x3] (W_m cI cM a_m a_m_type a_m_name a_m_arity a_m_keys a_m_defaults m_count m_type m_name m_arity m_keys m_defaults) r := by
  refine PM.of (cc := cX5_declaredBy) (maxL := 4) (ret := (some .int)) (by decide) rfl (Nat.le_of_ble_eq_true rfl) ?_
  intro p e s m below meth c ls hx hb hr hml hown hts hlk hP hKK hl
  have hown : s.vm.findClass RX5 = some m.cls := hown
  have hl : lv_has ls 4 [(0, .ref a_m), (1, .int x1), (2, .int x2), (3, .int x3)] := hl
  generalize hav : ([.ref a_m, .int x1, .int x2, .int x3] : List Value) = av at hts ⊢
  have SS : CallFix p m c cX5_declaredBy 4 s av.toArray wsX5_declaredBy RX5 := ⟨hx, hb, hml, hown, hts⟩
  have cw35 : va_CN rmX5_declaredBy s av.toArray RX5 35 yX8_bit RX8 cX8_bit 1 (some .int) wsX8_bit rmX8_bit 0 0 1 ∧ (Cond.static yX8_bit).before av.toArray s = true ∧ True := ⟨va_cnB 1 hts gX5_declaredBy_X8_bit_n35 rfl rfl rfl (hKK.2.at 10 rfl) (hts (.initialized RX8) (List.mem_of_getElem? (i := 2) rfl)) (by decide +kernel) ⟨Nat.le_of_ble_eq_true rfl, Nat.le_of_ble_eq_true rfl⟩, hts (.static yX8_bit) (List.mem_of_getElem? (i := 1) rfl), trivial⟩
  have cw43 : CallW rmX5_declaredBy s av.toArray RX5 RX5 43 yX5_withSignature cX5_withSignature 7 (some .int) wsX5_withSignature rmX5_withSignature 0 0 3 := cwV 3 hts gX5_declaredBy_X5_withSignature rfl rfl rfl (by decide +kernel) ⟨Nat.le_of_ble_eq_true rfl, Nat.le_of_ble_eq_true rfl⟩
  have cw47 : CallW rmX5_declaredBy s av.toArray RX5 RX5 47 yX5_smallest cX5_smallest 3 (some .int) wsX5_smallest rmX5_smallest 0 0 1 := cwV 1 hts gX5_declaredBy_X5_smallest rfl rfl rfl (by decide +kernel) ⟨Nat.le_of_ble_eq_true rfl, Nat.le_of_ble_eq_true rfl⟩
  unfold fX5_declaredBy at h
  refine lv_aload_n hx hb dX5_declaredBy_0 rfl (lv_at hl 0 rfl) ?_
  refine lv_aload_n hx hb dX5_declaredBy_1 rfl (lv_at hl 0 rfl) ?_
  refine lv_iload_n hx hb dX5_declaredBy_2 rfl (lv_at hl 2 rfl) ?_
  refine lv_iload_n hx hb dX5_declaredBy_3 rfl (lv_at hl 3 rfl) ?_
  refine lv_iload_n hx hb dX5_declaredBy_4 rfl (lv_at hl 1 rfl) ?_
  obtain ⟨v1, ev1, h⟩ := bn_some h
  refine kSN (As := [.int x1]) (rest := [.int x3, .int x2, .ref a_m, .ref a_m]) SS hKK (qX8_bit l D cI cM x1 v1 ev1) cw35 va_P_nil rfl hl.1 rfl (Nat.le_of_ble_eq_true rfl) dX5_declaredBy_5 ⟨Nat.zero_le _, Nat.zero_le _⟩ ?_
  obtain ⟨v2, ev2, h⟩ := bn_some h
  have hs3 : va_P D vwCl (W_m cI cM a_m a_m_type a_m_name a_m_arity a_m_keys a_m_defaults m_count m_type m_name m_arity m_keys m_defaults) _ := hP.sub (ws' := W_m cI cM a_m a_m_type a_m_name a_m_arity a_m_keys a_m_defaults m_count m_type m_name m_arity m_keys m_defaults) [0, 1, 2, 3, 4, 5] rfl
  refine kV (As := [.int x2, .int x3, .int v1]) (rest := [.ref a_m]) SS hKK (qX5_withSignature l D cI cM a_m a_m_type a_m_name a_m_arity a_m_keys a_m_defaults m_count m_type m_name m_arity m_keys m_defaults x2 x3 v1 v2 ev2) cw43 hs3 0 5 rfl rfl rfl hl.1 rfl (Nat.le_of_ble_eq_true rfl) dX5_declaredBy_8 ⟨Nat.zero_le _, Nat.zero_le _⟩ ?_
  obtain ⟨v4, ev4, h⟩ := bn_some h
  refine kV (As := [.int v2]) (rest := []) SS hKK (qX5_smallest l D cI cM a_m a_m_type a_m_name a_m_arity a_m_keys a_m_defaults m_count m_type m_name m_arity m_keys m_defaults v2 v4 ev4) cw47 hs3 0 5 rfl rfl rfl hl.1 rfl (Nat.le_of_ble_eq_true rfl) dX5_declaredBy_11 ⟨Nat.zero_le _, Nat.zero_le _⟩ ?_
  exact kRet hx hb hr hlk (Option.some.inj h) dX5_declaredBy_14
set_option maxHeartbeats 8000000 in
set_option maxRecDepth 100000 in
theorem qX5_typesOf (l : Launch) (D : va_G) (cI cM : ClassId) (a_m a_m_type a_m_name a_m_arity a_m_keys a_m_defaults : Nat) (m_count : Int32) (m_type : Nat → Int32) (m_name : Nat → Int32) (m_arity : Nat → Int32) (m_keys : Nat → Int32) (m_defaults : Nat → Int32) (x1 : Int32) (r : Int32) (h : fX5_typesOf m_count m_type x1 = some r) : PM l yX5_typesOf wsX5_typesOf rmX5_typesOf D cI cM [.ref a_m, .int x1] (W_m cI cM a_m a_m_type a_m_name a_m_arity a_m_keys a_m_defaults m_count m_type m_name m_arity m_keys m_defaults) r := by
  refine PM.of (cc := cX5_typesOf) (maxL := 4) (ret := (some .int)) (by decide) rfl (Nat.le_of_ble_eq_true rfl) ?_
  intro p e s m below meth c ls hx hb hr hml hown hts hlk hP hKK hl
  have hown : s.vm.findClass RX5 = some m.cls := hown
  have hl : lv_has ls 4 [(0, .ref a_m), (1, .int x1)] := hl
  generalize hav : ([.ref a_m, .int x1] : List Value) = av at hts ⊢
  have SS : CallFix p m c cX5_typesOf 4 s av.toArray wsX5_typesOf RX5 := ⟨hx, hb, hml, hown, hts⟩
  have hinX5 : ∀ w ∈ u_ws RX5 TX5 6, w ∈ wsX5_typesOf := by decide +kernel
  have lk9 := hts (.fieldLink RX5 9 "SignatureChanger$Methods" "type" "[I") (List.mem_of_getElem? (i := 2) rfl)
  have lk27 := hts (.fieldLink RX5 27 "SignatureChanger$Methods" "count" "I") (List.mem_of_getElem? (i := 1) rfl)
  have cw35 : va_CN rmX5_typesOf s av.toArray RX5 35 yX8_bit RX8 cX8_bit 1 (some .int) wsX8_bit rmX8_bit 0 0 1 ∧ (Cond.static yX8_bit).before av.toArray s = true ∧ True := ⟨va_cnB 1 hts gX5_typesOf_X8_bit_n35 rfl rfl rfl (hKK.2.at 10 rfl) (hts (.initialized RX8) (List.mem_of_getElem? (i := 4) rfl)) (by decide +kernel) ⟨Nat.le_of_ble_eq_true rfl, Nat.le_of_ble_eq_true rfl⟩, hts (.static yX8_bit) (List.mem_of_getElem? (i := 6) rfl), trivial⟩
  have cw39 : va_CN rmX5_typesOf s av.toArray RX5 39 yX8_contains RX8 cX8_contains 2 (some .boolean) wsX8_contains rmX8_contains 0 0 2 ∧ (Cond.static yX8_contains).before av.toArray s = true ∧ True := ⟨va_cnB 2 hts gX5_typesOf_X8_contains_n39 rfl rfl rfl (hKK.2.at 9 rfl) (hts (.initialized RX8) (List.mem_of_getElem? (i := 4) rfl)) (by decide +kernel) ⟨Nat.le_of_ble_eq_true rfl, Nat.le_of_ble_eq_true rfl⟩, hts (.static yX8_contains) (List.mem_of_getElem? (i := 3) rfl), trivial⟩
  have F4 : ∀ (n : Nat) (y1 : Int32) (y2 : Int32) (y3 : Int32), lX5_typesOf_4 m_count m_type n y1 y2 y3 = some r → ∀ ls : Array Slot, lv_has ls 4 [(0, .ref a_m), (1, .int y1), (2, .int y2), (3, .int y3)] → WP p l e rmX5_typesOf s m av below meth c r 4 ls [] := by
    intro n
    induction n with
    | zero => intro y1 y2 y3 h; exact no_some h
    | succ n ih =>
      intro y1 y2 y3 h ls hl
      rw [lX5_typesOf_4_s] at h
      refine lv_iload_n hx hb dX5_typesOf_4 rfl (lv_at hl 3 rfl) ?_
      refine lv_aload_n hx hb dX5_typesOf_5 rfl (lv_at hl 0 rfl) ?_
      refine va_get (D := D) (ci := 5) (v := .int m_count) (C := RX5) (T := TX5) (N := 6) hx hb hts hinX5 hown hKK.1 hP 0 rfl rfl 0 (by decide) lk27 (fun _ h9 => h9) rfl dX5_typesOf_6 ?_
      refine lv_icmp_ge (tgt := 38) hx hb dX5_typesOf_9 (by decide) (fun c1 => ?_) (fun c1 => ?_)
      · have h := ifp h c1
        refine lv_iload_n hx hb dX5_typesOf_38 rfl (lv_at hl 2 rfl) ?_
        exact kRet hx hb hr hlk (Option.some.inj h) dX5_typesOf_39
      · have h := ifn h c1
        refine lv_iload_n hx hb dX5_typesOf_12 rfl (lv_at hl 1 rfl) ?_
        refine lv_iload_n hx hb dX5_typesOf_13 rfl (lv_at hl 3 rfl) ?_
        obtain ⟨v2, ev2, h⟩ := bn_some h
        refine kSN (As := [.int y1, .int y3]) (rest := []) SS hKK (qX8_contains l D cI cM y1 y3 v2 ev2) cw39 va_P_nil rfl hl.1 rfl (Nat.le_of_ble_eq_true rfl) dX5_typesOf_14 ⟨Nat.zero_le _, Nat.zero_le _⟩ ?_
        refine lv_if_eq (tgt := 32) hx hb dX5_typesOf_17 (by decide) (fun c3 => ?_) (fun c3 => ?_)
        · have h := ifp h c3
          refine lv_iinc (v := y3 + 1) (lv' := [(3, .int (y3 + 1)), (0, .ref a_m), (1, .int y1), (2, .int y2)]) hx hb dX5_typesOf_32 hl (k := 3) rfl rfl (by decide) rfl (fun ls hl => ?_)
          refine lv_goto (tgt := 4) hx hb dX5_typesOf_35 (by decide) ?_
          exact ih y1 y2 (y3 + 1) h ls (lv_sub (l' := [(0, .ref a_m), (1, .int y1), (2, .int y2), (3, .int (y3 + 1))]) hl [1, 2, 3, 0] rfl)
        · have h := ifn h c3
          refine lv_iload_n hx hb dX5_typesOf_20 rfl (lv_at hl 2 rfl) ?_
          refine lv_aload_n hx hb dX5_typesOf_21 rfl (lv_at hl 0 rfl) ?_
          refine va_get (D := D) (ci := 5) (v := .ref a_m_type) (C := RX5) (T := TX5) (N := 6) hx hb hts hinX5 hown hKK.1 hP 0 rfl rfl 1 (by decide) lk9 (fun _ h9 => h9) rfl dX5_typesOf_22 ?_
          refine lv_iload_n hx hb dX5_typesOf_25 rfl (lv_at hl 3 rfl) ?_
          obtain ⟨v4, iv4, ev4, h⟩ := rd_some h
          refine kAld hx hb hKK hP 1 rfl iv4 ev4 dX5_typesOf_26 ?_
          obtain ⟨v5, ev5, h⟩ := bn_some h
          refine kSN (As := [.int v4]) (rest := [.int y2]) SS hKK (qX8_bit l D cI cM v4 v5 ev5) cw35 va_P_nil rfl hl.1 rfl (Nat.le_of_ble_eq_true rfl) dX5_typesOf_27 ⟨Nat.zero_le _, Nat.zero_le _⟩ ?_
          refine lv_ior hx hb dX5_typesOf_30 ?_
          refine lv_istore_n (lv' := [(2, .int (y2 ||| v5)), (0, .ref a_m), (1, .int y1), (3, .int y3)]) hx hb dX5_typesOf_31 rfl hl (by decide) rfl (fun ls hl => ?_)
          refine lv_iinc (v := y3 + 1) (lv' := [(3, .int (y3 + 1)), (2, .int (y2 ||| v5)), (0, .ref a_m), (1, .int y1)]) hx hb dX5_typesOf_32 hl (k := 3) rfl rfl (by decide) rfl (fun ls hl => ?_)
          refine lv_goto (tgt := 4) hx hb dX5_typesOf_35 (by decide) ?_
          exact ih y1 (y2 ||| v5) (y3 + 1) h ls (lv_sub (l' := [(0, .ref a_m), (1, .int y1), (2, .int (y2 ||| v5)), (3, .int (y3 + 1))]) hl [2, 3, 1, 0] rfl)
  unfold fX5_typesOf at h
  refine lv_iconst (v := 0) hx hb dX5_typesOf_0 (by decide) ?_
  refine lv_istore_n (lv' := [(2, .int 0), (0, .ref a_m), (1, .int x1)]) hx hb dX5_typesOf_1 rfl hl (by decide) rfl (fun ls hl => ?_)
  refine lv_iconst (v := 0) hx hb dX5_typesOf_2 (by decide) ?_
  refine lv_istore_n (lv' := [(3, .int 0), (2, .int 0), (0, .ref a_m), (1, .int x1)]) hx hb dX5_typesOf_3 rfl hl (by decide) rfl (fun ls hl => ?_)
  exact F4 5000 x1 0 0 h ls (lv_sub (l' := [(0, .ref a_m), (1, .int x1), (2, .int 0), (3, .int 0)]) hl [2, 3, 1, 0] rfl)
set_option maxHeartbeats 8000000 in
set_option maxRecDepth 100000 in
theorem qX5_sameParameters (l : Launch) (D : va_G) (cI cM : ClassId) (a_m a_m_type a_m_name a_m_arity a_m_keys a_m_defaults : Nat) (m_count : Int32) (m_type : Nat → Int32) (m_name : Nat → Int32) (m_arity : Nat → Int32) (m_keys : Nat → Int32) (m_defaults : Nat → Int32) (x1 : Int32) (x2 : Int32) (r : Int32) (h : fX5_sameParameters m_arity m_keys m_defaults x1 x2 = some r) : PM l yX5_sameParameters wsX5_sameParameters rmX5_sameParameters D cI cM [.ref a_m, .int x1, .int x2] (W_m cI cM a_m a_m_type a_m_name a_m_arity a_m_keys a_m_defaults m_count m_type m_name m_arity m_keys m_defaults) r := by
  refine PM.of (cc := cX5_sameParameters) (maxL := 5) (ret := (some .boolean)) (by decide) rfl (Nat.le_of_ble_eq_true rfl) ?_
  intro p e s m below meth c ls hx hb hr hml hown hts hlk hP hKK hl
  have hown : s.vm.findClass RX5 = some m.cls := hown
  have hl : lv_has ls 5 [(0, .ref a_m), (1, .int x1), (2, .int x2)] := hl
  generalize hav : ([.ref a_m, .int x1, .int x2] : List Value) = av at hts ⊢
  have SS : CallFix p m c cX5_sameParameters 5 s av.toArray wsX5_sameParameters RX5 := ⟨hx, hb, hml, hown, hts⟩
  have hinX5 : ∀ w ∈ u_ws RX5 TX5 6, w ∈ wsX5_sameParameters := by decide +kernel
  have lk18 := hts (.fieldLink RX5 18 "SignatureChanger$Methods" "arity" "[I") (List.mem_of_getElem? (i := 1) rfl)
  have cw31 : CallW rmX5_sameParameters s av.toArray RX5 RX5 31 yX5_keyOf cX5_keyOf 3 (some .int) wsX5_keyOf rmX5_keyOf 0 0 2 := cwV 2 hts gX5_sameParameters_X5_keyOf rfl rfl rfl (by decide +kernel) ⟨Nat.le_of_ble_eq_true rfl, Nat.le_of_ble_eq_true rfl⟩
  have cw50 : CallW rmX5_sameParameters s av.toArray RX5 RX5 50 yX5_defaultOf cX5_defaultOf 3 (some .int) wsX5_defaultOf rmX5_defaultOf 0 0 2 := cwV 2 hts gX5_sameParameters_X5_defaultOf rfl rfl rfl (by decide +kernel) ⟨Nat.le_of_ble_eq_true rfl, Nat.le_of_ble_eq_true rfl⟩
  have F32 : ∀ (k2 : Int32 → Int32 → Int32 → Option (Int32)) (hk2 : ∀ (u1 : Int32) (u2 : Int32) (u3 : Int32), k2 u1 u2 u3 = some r → ∀ ls : Array Slot, lv_has ls 5 [(0, .ref a_m), (1, .int u1), (2, .int u2), (3, .int u3)] → WP p l e rmX5_sameParameters s m av below meth c r 2 ls []), ∀ (y1 : Int32) (y2 : Int32) (y3 : Int32) (s0 : Int32), jX5_sameParameters_32 m_arity m_keys m_defaults k2 y1 y2 y3 s0 = some r → ∀ ls : Array Slot, lv_has ls 5 [(0, .ref a_m), (1, .int y1), (2, .int y2), (3, .int y3)] → WP p l e rmX5_sameParameters s m av below meth c r 32 ls [.int s0] := by
    intro k2 hk2
    intro y1 y2 y3 s0 h ls hl
    unfold jX5_sameParameters_32 at h
    refine lv_istore (lv' := [(4, .int s0), (0, .ref a_m), (1, .int y1), (2, .int y2), (3, .int y3)]) hx hb dX5_sameParameters_32 hl (by decide) rfl (fun ls hl => ?_)
    refine lv_iload hx hb dX5_sameParameters_34 (lv_at hl 0 rfl) ?_
    refine lv_if_eq (tgt := 54) hx hb dX5_sameParameters_36 (by decide) (fun c1 => ?_) (fun c1 => ?_)
    · have h := ifp h c1
      refine lv_iconst (v := 0) hx hb dX5_sameParameters_54 (by decide) ?_
      exact kRetZ hx hb hr hlk rfl (Option.some.inj h) dX5_sameParameters_55
    · have h := ifn h c1
      refine lv_aload_n hx hb dX5_sameParameters_39 rfl (lv_at hl 1 rfl) ?_
      refine lv_iload_n hx hb dX5_sameParameters_40 rfl (lv_at hl 2 rfl) ?_
      refine lv_iload_n hx hb dX5_sameParameters_41 rfl (lv_at hl 4 rfl) ?_
      obtain ⟨v2, ev2, h⟩ := bn_some h
      have hs3 : va_P D vwCl (W_m cI cM a_m a_m_type a_m_name a_m_arity a_m_keys a_m_defaults m_count m_type m_name m_arity m_keys m_defaults) _ := hP.sub (ws' := W_m cI cM a_m a_m_type a_m_name a_m_arity a_m_keys a_m_defaults m_count m_type m_name m_arity m_keys m_defaults) [0, 1, 2, 3, 4, 5] rfl
      refine kV (As := [.int y1, .int y3]) (rest := []) SS hKK (qX5_defaultOf l D cI cM a_m a_m_type a_m_name a_m_arity a_m_keys a_m_defaults m_count m_type m_name m_arity m_keys m_defaults y1 y3 v2 ev2) cw50 hs3 0 5 rfl rfl rfl hl.1 rfl (Nat.le_of_ble_eq_true rfl) dX5_sameParameters_42 ⟨Nat.zero_le _, Nat.zero_le _⟩ ?_
      refine lv_aload_n hx hb dX5_sameParameters_45 rfl (lv_at hl 1 rfl) ?_
      refine lv_iload_n hx hb dX5_sameParameters_46 rfl (lv_at hl 3 rfl) ?_
      refine lv_iload_n hx hb dX5_sameParameters_47 rfl (lv_at hl 4 rfl) ?_
      obtain ⟨v4, ev4, h⟩ := bn_some h
      refine kV (As := [.int y2, .int y3]) (rest := [.int v2]) SS hKK (qX5_defaultOf l D cI cM a_m a_m_type a_m_name a_m_arity a_m_keys a_m_defaults m_count m_type m_name m_arity m_keys m_defaults y2 y3 v4 ev4) cw50 hs3 0 5 rfl rfl rfl hl.1 rfl (Nat.le_of_ble_eq_true rfl) dX5_sameParameters_48 ⟨Nat.zero_le _, Nat.zero_le _⟩ ?_
      refine lv_icmp_eq (tgt := 56) hx hb dX5_sameParameters_51 (by decide) (fun c5 => ?_) (fun c5 => ?_)
      · have h := ifp h c5
        refine lv_iinc (v := y3 + 1) (lv' := [(3, .int (y3 + 1)), (4, .int s0), (0, .ref a_m), (1, .int y1), (2, .int y2)]) hx hb dX5_sameParameters_56 hl (k := 4) rfl rfl (by decide) rfl (fun ls hl => ?_)
        refine lv_goto (tgt := 2) hx hb dX5_sameParameters_59 (by decide) ?_
        exact hk2 y1 y2 (y3 + 1) h ls (lv_sub (l' := [(0, .ref a_m), (1, .int y1), (2, .int y2), (3, .int (y3 + 1))]) hl [2, 3, 4, 0] rfl)
      · have h := ifn h c5
        refine lv_iconst (v := 0) hx hb dX5_sameParameters_54 (by decide) ?_
        exact kRetZ hx hb hr hlk rfl (Option.some.inj h) dX5_sameParameters_55
  have F2 : ∀ (n : Nat) (y1 : Int32) (y2 : Int32) (y3 : Int32), lX5_sameParameters_2 m_arity m_keys m_defaults n y1 y2 y3 = some r → ∀ ls : Array Slot, lv_has ls 5 [(0, .ref a_m), (1, .int y1), (2, .int y2), (3, .int y3)] → WP p l e rmX5_sameParameters s m av below meth c r 2 ls [] := by
    intro n
    induction n with
    | zero => intro y1 y2 y3 h; exact no_some h
    | succ n ih =>
      intro y1 y2 y3 h ls hl
      rw [lX5_sameParameters_2_s] at h
      refine lv_iload_n hx hb dX5_sameParameters_2 rfl (lv_at hl 3 rfl) ?_
      refine lv_aload_n hx hb dX5_sameParameters_3 rfl (lv_at hl 0 rfl) ?_
      refine va_get (D := D) (ci := 5) (v := .ref a_m_arity) (C := RX5) (T := TX5) (N := 6) hx hb hts hinX5 hown hKK.1 hP 0 rfl rfl 3 (by decide) lk18 (fun _ h9 => h9) rfl dX5_sameParameters_4 ?_
      refine lv_iload_n hx hb dX5_sameParameters_7 rfl (lv_at hl 1 rfl) ?_
      obtain ⟨v1, iv1, ev1, h⟩ := rd_some h
      refine kAld hx hb hKK hP 3 rfl iv1 ev1 dX5_sameParameters_8 ?_
      refine lv_icmp_ge (tgt := 62) hx hb dX5_sameParameters_9 (by decide) (fun c2 => ?_) (fun c2 => ?_)
      · have h := ifp h c2
        refine lv_iconst (v := 1) hx hb dX5_sameParameters_62 (by decide) ?_
        exact kRetZ hx hb hr hlk rfl (Option.some.inj h) dX5_sameParameters_63
      · have h := ifn h c2
        refine lv_aload_n hx hb dX5_sameParameters_12 rfl (lv_at hl 0 rfl) ?_
        refine lv_iload_n hx hb dX5_sameParameters_13 rfl (lv_at hl 1 rfl) ?_
        refine lv_iload_n hx hb dX5_sameParameters_14 rfl (lv_at hl 3 rfl) ?_
        obtain ⟨v3, ev3, h⟩ := bn_some h
        have hs4 : va_P D vwCl (W_m cI cM a_m a_m_type a_m_name a_m_arity a_m_keys a_m_defaults m_count m_type m_name m_arity m_keys m_defaults) _ := hP.sub (ws' := W_m cI cM a_m a_m_type a_m_name a_m_arity a_m_keys a_m_defaults m_count m_type m_name m_arity m_keys m_defaults) [0, 1, 2, 3, 4, 5] rfl
        refine kV (As := [.int y1, .int y3]) (rest := []) SS hKK (qX5_keyOf l D cI cM a_m a_m_type a_m_name a_m_arity a_m_keys a_m_defaults m_count m_type m_name m_arity m_keys m_defaults y1 y3 v3 ev3) cw31 hs4 0 5 rfl rfl rfl hl.1 rfl (Nat.le_of_ble_eq_true rfl) dX5_sameParameters_15 ⟨Nat.zero_le _, Nat.zero_le _⟩ ?_
        refine lv_aload_n hx hb dX5_sameParameters_18 rfl (lv_at hl 0 rfl) ?_
        refine lv_iload_n hx hb dX5_sameParameters_19 rfl (lv_at hl 2 rfl) ?_
        refine lv_iload_n hx hb dX5_sameParameters_20 rfl (lv_at hl 3 rfl) ?_
        obtain ⟨v5, ev5, h⟩ := bn_some h
        refine kV (As := [.int y2, .int y3]) (rest := [.int v3]) SS hKK (qX5_keyOf l D cI cM a_m a_m_type a_m_name a_m_arity a_m_keys a_m_defaults m_count m_type m_name m_arity m_keys m_defaults y2 y3 v5 ev5) cw31 hs4 0 5 rfl rfl rfl hl.1 rfl (Nat.le_of_ble_eq_true rfl) dX5_sameParameters_21 ⟨Nat.zero_le _, Nat.zero_le _⟩ ?_
        refine lv_icmp_ne (tgt := 31) hx hb dX5_sameParameters_24 (by decide) (fun c6 => ?_) (fun c6 => ?_)
        · have h := ifn h c6
          refine lv_iconst (v := 0) hx hb dX5_sameParameters_31 (by decide) ?_
          exact F32 (fun u1 u2 u3 => lX5_sameParameters_2 m_arity m_keys m_defaults n u1 u2 u3) (fun u1 u2 u3 h ls hl => ih u1 u2 u3 h ls hl) y1 y2 y3 0 h ls (lv_sub (l' := [(0, .ref a_m), (1, .int y1), (2, .int y2), (3, .int y3)]) hl [0, 1, 2, 3] rfl)
        · have h := ifp h c6
          refine lv_iconst (v := 1) hx hb dX5_sameParameters_27 (by decide) ?_
          refine lv_goto (tgt := 32) hx hb dX5_sameParameters_28 (by decide) ?_
          exact F32 (fun u1 u2 u3 => lX5_sameParameters_2 m_arity m_keys m_defaults n u1 u2 u3) (fun u1 u2 u3 h ls hl => ih u1 u2 u3 h ls hl) y1 y2 y3 1 h ls (lv_sub (l' := [(0, .ref a_m), (1, .int y1), (2, .int y2), (3, .int y3)]) hl [0, 1, 2, 3] rfl)
  unfold fX5_sameParameters at h
  refine lv_iconst (v := 0) hx hb dX5_sameParameters_0 (by decide) ?_
  refine lv_istore_n (lv' := [(3, .int 0), (0, .ref a_m), (1, .int x1), (2, .int x2)]) hx hb dX5_sameParameters_1 rfl hl (by decide) rfl (fun ls hl => ?_)
  exact F2 5000 x1 x2 0 h ls (lv_sub (l' := [(0, .ref a_m), (1, .int x1), (2, .int x2), (3, .int 0)]) hl [1, 2, 3, 0] rfl)
