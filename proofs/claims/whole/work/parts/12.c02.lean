/-! generated: X2.evaluate X2.received X2.resultOf X7.copyFrom X5.copyFrom -/
set_option maxHeartbeats 8000000 in
set_option maxRecDepth 100000 in
theorem qX2_evaluate (l : Launch) (D : va_G) (cI cM : ClassId) (a_e a_e_temporaries a_e_arguments a_k a_k_staticType a_k_dynamicType a_k_target a_k_argumentCounts a_k_temporaryCounts a_k_keys a_k_kinds a_k_values a_k_temporaryKinds a_k_newKinds a_k_newValues : Nat) (e_counter : Int32) (e_temporaries : Nat → Int32) (e_arguments : Nat → Int32) (k_count : Int32) (k_frozenSet : Int32) (k_staticType : Nat → Int32) (k_dynamicType : Nat → Int32) (k_target : Nat → Int32) (k_argumentCounts : Nat → Int32) (k_temporaryCounts : Nat → Int32) (k_keys : Nat → Int32) (k_kinds : Nat → Int32) (k_values : Nat → Int32) (k_temporaryKinds : Nat → Int32) (k_newKinds : Nat → Int32) (k_newValues : Nat → Int32) (x2 : Int32) (r_e_counter : Int32) (r_e_temporaries : Nat → Int32) (r_e_arguments : Nat → Int32) (h : fX2_evaluate e_counter e_temporaries e_arguments k_argumentCounts k_temporaryCounts k_kinds k_values k_temporaryKinds x2 = some (r_e_counter, r_e_temporaries, r_e_arguments)) : IM l yX2_evaluate wsX2_evaluate rmX2_evaluate D cI cM [.ref a_e, .ref a_k, .int x2] (W_e_k cI cM a_e a_e_temporaries a_e_arguments a_k a_k_staticType a_k_dynamicType a_k_target a_k_argumentCounts a_k_temporaryCounts a_k_keys a_k_kinds a_k_values a_k_temporaryKinds a_k_newKinds a_k_newValues e_counter e_temporaries e_arguments k_count k_frozenSet k_staticType k_dynamicType k_target k_argumentCounts k_temporaryCounts k_keys k_kinds k_values k_temporaryKinds k_newKinds k_newValues) (W_e_k cI cM a_e a_e_temporaries a_e_arguments a_k a_k_staticType a_k_dynamicType a_k_target a_k_argumentCounts a_k_temporaryCounts a_k_keys a_k_kinds a_k_values a_k_temporaryKinds a_k_newKinds a_k_newValues r_e_counter r_e_temporaries r_e_arguments k_count k_frozenSet k_staticType k_dynamicType k_target k_argumentCounts k_temporaryCounts k_keys k_kinds k_values k_temporaryKinds k_newKinds k_newValues) none := by
  refine IM.of (cc := cX2_evaluate) (maxL := 4) (ret := none) (by decide) rfl (Nat.le_of_ble_eq_true rfl) ?_
  intro p e s m below meth c ls hx hb hr hml hown hts hlk hKK hP hD hS hl
  have hown : s.vm.findClass RX2 = some m.cls := hown
  have hl : lv_has ls 4 [(0, .ref a_e), (1, .ref a_k), (2, .int x2)] := hl
  generalize hav : ([.ref a_e, .ref a_k, .int x2] : List Value) = av at hts ⊢
  generalize hw1 : W_e_k cI cM a_e a_e_temporaries a_e_arguments a_k a_k_staticType a_k_dynamicType a_k_target a_k_argumentCounts a_k_temporaryCounts a_k_keys a_k_kinds a_k_values a_k_temporaryKinds a_k_newKinds a_k_newValues r_e_counter r_e_temporaries r_e_arguments k_count k_frozenSet k_staticType k_dynamicType k_target k_argumentCounts k_temporaryCounts k_keys k_kinds k_values k_temporaryKinds k_newKinds k_newValues = w1
  generalize hw0 : W_e_k cI cM a_e a_e_temporaries a_e_arguments a_k a_k_staticType a_k_dynamicType a_k_target a_k_argumentCounts a_k_temporaryCounts a_k_keys a_k_kinds a_k_values a_k_temporaryKinds a_k_newKinds a_k_newValues e_counter e_temporaries e_arguments k_count k_frozenSet k_staticType k_dynamicType k_target k_argumentCounts k_temporaryCounts k_keys k_kinds k_values k_temporaryKinds k_newKinds k_newValues = w0 at hD hS ⊢
  have hP : va_P D vwCl (W_e_k cI cM a_e a_e_temporaries a_e_arguments a_k a_k_staticType a_k_dynamicType a_k_target a_k_argumentCounts a_k_temporaryCounts a_k_keys a_k_kinds a_k_values a_k_temporaryKinds a_k_newKinds a_k_newValues e_counter e_temporaries e_arguments k_count k_frozenSet k_staticType k_dynamicType k_target k_argumentCounts k_temporaryCounts k_keys k_kinds k_values k_temporaryKinds k_newKinds k_newValues) s.heap := hP
  have hD : va_D (fun q => q ∈ w0.map (·.1)) (W_e_k cI cM a_e a_e_temporaries a_e_arguments a_k a_k_staticType a_k_dynamicType a_k_target a_k_argumentCounts a_k_temporaryCounts a_k_keys a_k_kinds a_k_values a_k_temporaryKinds a_k_newKinds a_k_newValues e_counter e_temporaries e_arguments k_count k_frozenSet k_staticType k_dynamicType k_target k_argumentCounts k_temporaryCounts k_keys k_kinds k_values k_temporaryKinds k_newKinds k_newValues) := by rw [hw0]; exact hD
  have SS : CallFix p m c cX2_evaluate 4 s av.toArray wsX2_evaluate RX2 := ⟨hx, hb, hml, hown, hts⟩
  have hinX0 : ∀ w ∈ u_ws RX0 TX0 13, w ∈ wsX2_evaluate := by decide +kernel
  have hinX2 : ∀ w ∈ u_ws RX2 TX2 3, w ∈ wsX2_evaluate := by decide +kernel
  have lk9 := hts (.fieldLink RX2 9 "SignatureChanger$Evaluation" "temporaries" "[I") (List.mem_of_getElem? (i := 3) rfl)
  have lk15 := hts (.fieldLink RX2 15 "SignatureChanger$Evaluation" "arguments" "[I") (List.mem_of_getElem? (i := 5) rfl)
  have lk18 := hts (.fieldLink RX2 18 "SignatureChanger$Evaluation" "counter" "I") (List.mem_of_getElem? (i := 1) rfl)
  have lk22 := hts (.fieldLink RX2 22 "SignatureChanger$Calls" "temporaryCounts" "[I") (List.mem_of_getElem? (i := 2) rfl)
  have lk35 := hts (.fieldLink RX2 35 "SignatureChanger$Calls" "argumentCounts" "[I") (List.mem_of_getElem? (i := 4) rfl)
  have cw27 : CallW rmX2_evaluate s av.toArray RX2 RX0 27 yX0_temporaryKindOf cX0_temporaryKindOf 3 (some .int) wsX0_temporaryKindOf rmX0_temporaryKindOf 0 0 2 := cwV 2 hts gX2_evaluate_X0_temporaryKindOf rfl rfl rfl (by decide +kernel) ⟨Nat.le_of_ble_eq_true rfl, Nat.le_of_ble_eq_true rfl⟩
  have cw31 : CallW rmX2_evaluate s av.toArray RX2 RX2 31 yX2_readOrTick cX2_readOrTick 3 (some .int) wsX2_readOrTick rmX2_readOrTick 0 0 1 := cwV 1 hts gX2_evaluate_X2_readOrTick rfl rfl rfl (by decide +kernel) ⟨Nat.le_of_ble_eq_true rfl, Nat.le_of_ble_eq_true rfl⟩
  have cw38 : CallW rmX2_evaluate s av.toArray RX2 RX0 38 yX0_kindOf cX0_kindOf 3 (some .int) wsX0_kindOf rmX0_kindOf 0 0 2 := cwV 2 hts gX2_evaluate_X0_kindOf rfl rfl rfl (by decide +kernel) ⟨Nat.le_of_ble_eq_true rfl, Nat.le_of_ble_eq_true rfl⟩
  have cw41 : CallW rmX2_evaluate s av.toArray RX2 RX0 41 yX0_valueOf cX0_valueOf 3 (some .int) wsX0_valueOf rmX0_valueOf 0 0 2 := cwV 2 hts gX2_evaluate_X0_valueOf rfl rfl rfl (by decide +kernel) ⟨Nat.le_of_ble_eq_true rfl, Nat.le_of_ble_eq_true rfl⟩
  have cw44 : CallW rmX2_evaluate s av.toArray RX2 RX2 44 yX2_valueOf cX2_valueOf 3 (some .int) wsX2_valueOf rmX2_valueOf 0 0 2 := cwV 2 hts gX2_evaluate_X2_valueOf rfl rfl rfl (by decide +kernel) ⟨Nat.le_of_ble_eq_true rfl, Nat.le_of_ble_eq_true rfl⟩
  have F41 : ∀ (n : Nat) (H : Heap) (locs : List Loc) (e_counter : Int32) (e_temporaries : Nat → Int32) (e_arguments : Nat → Int32) (y2 : Int32) (y3 : Int32), lX2_evaluate_41 k_argumentCounts k_temporaryCounts k_kinds k_values k_temporaryKinds n e_counter e_temporaries e_arguments y2 y3 = some (r_e_counter, r_e_temporaries, r_e_arguments) → va_P D vwCl (W_e_k cI cM a_e a_e_temporaries a_e_arguments a_k a_k_staticType a_k_dynamicType a_k_target a_k_argumentCounts a_k_temporaryCounts a_k_keys a_k_kinds a_k_values a_k_temporaryKinds a_k_newKinds a_k_newValues e_counter e_temporaries e_arguments k_count k_frozenSet k_staticType k_dynamicType k_target k_argumentCounts k_temporaryCounts k_keys k_kinds k_values k_temporaryKinds k_newKinds k_newValues) H → va_D (fun q => q ∈ (w0).map (·.1)) (W_e_k cI cM a_e a_e_temporaries a_e_arguments a_k a_k_staticType a_k_dynamicType a_k_target a_k_argumentCounts a_k_temporaryCounts a_k_keys a_k_kinds a_k_values a_k_temporaryKinds a_k_newKinds a_k_newValues e_counter e_temporaries e_arguments k_count k_frozenSet k_staticType k_dynamicType k_target k_argumentCounts k_temporaryCounts k_keys k_kinds k_values k_temporaryKinds k_newKinds k_newValues) → va_S (fun q => q ∈ (w0).map (·.1)) s.heap H locs → ∀ ls : Array Slot, lv_has ls 4 [(0, .ref a_e), (1, .ref a_k), (2, .int y2), (3, .int y3)] → WI p l e rmX2_evaluate s m av below meth c D w0 w1 none H locs 41 ls [] := by
    intro n
    induction n with
    | zero => intro H locs e_counter e_temporaries e_arguments y2 y3 h; exact no_some h
    | succ n ih =>
      intro H locs e_counter e_temporaries e_arguments y2 y3 h hP hD hS ls hl
      rw [lX2_evaluate_41_s] at h
      refine lv_iload_n hx hb dX2_evaluate_41 rfl (lv_at hl 3 rfl) ?_
      refine lv_aload_n hx hb dX2_evaluate_42 rfl (lv_at hl 1 rfl) ?_
      refine va_get (D := D) (ci := 0) (v := .ref a_k_argumentCounts) (C := RX0) (T := TX0) (N := 13) hx hb hts hinX0 hown hKK.1 hP 3 rfl rfl 5 (by decide) lk35 (fun _ h9 => h9) rfl dX2_evaluate_43 ?_
      refine lv_iload_n hx hb dX2_evaluate_46 rfl (lv_at hl 2 rfl) ?_
      obtain ⟨v1, iv1, ev1, h⟩ := rd_some h
      refine kAld hx hb hKK hP 7 rfl iv1 ev1 dX2_evaluate_47 ?_
      refine lv_icmp_ge (tgt := 79) hx hb dX2_evaluate_48 (by decide) (fun c2 => ?_) (fun c2 => ?_)
      · have h := ifp h c2
        simp only [Option.some.injEq, Prod.mk.injEq] at h
        obtain ⟨e0, e1, e2⟩ := h
        exact kRetV hx hb hr hlk (by rw [← hw1, ← e0, ← e1, ← e2]; exact hP) hS dX2_evaluate_79
      · have h := ifn h c2
        refine lv_aload_n hx hb dX2_evaluate_51 rfl (lv_at hl 0 rfl) ?_
        refine va_get (D := D) (ci := 2) (v := .ref a_e_arguments) (C := RX2) (T := TX2) (N := 3) hx hb hts hinX2 hown hKK.1 hP 0 rfl rfl 2 (by decide) lk15 (fun _ h9 => h9) rfl dX2_evaluate_52 ?_
        refine lv_iload_n hx hb dX2_evaluate_55 rfl (lv_at hl 3 rfl) ?_
        refine lv_aload_n hx hb dX2_evaluate_56 rfl (lv_at hl 0 rfl) ?_
        refine lv_aload_n hx hb dX2_evaluate_57 rfl (lv_at hl 1 rfl) ?_
        refine lv_iload_n hx hb dX2_evaluate_58 rfl (lv_at hl 2 rfl) ?_
        refine lv_iload_n hx hb dX2_evaluate_59 rfl (lv_at hl 3 rfl) ?_
        obtain ⟨v3, ev3, h⟩ := bn_some h
        have hs4 : va_P D vwCl (W_k cI cM a_k a_k_staticType a_k_dynamicType a_k_target a_k_argumentCounts a_k_temporaryCounts a_k_keys a_k_kinds a_k_values a_k_temporaryKinds a_k_newKinds a_k_newValues k_count k_frozenSet k_staticType k_dynamicType k_target k_argumentCounts k_temporaryCounts k_keys k_kinds k_values k_temporaryKinds k_newKinds k_newValues) _ := blkP (Bs := [B_e cI cM a_e a_e_temporaries a_e_arguments e_counter e_temporaries e_arguments, B_k cI cM a_k a_k_staticType a_k_dynamicType a_k_target a_k_argumentCounts a_k_temporaryCounts a_k_keys a_k_kinds a_k_values a_k_temporaryKinds a_k_newKinds a_k_newValues k_count k_frozenSet k_staticType k_dynamicType k_target k_argumentCounts k_temporaryCounts k_keys k_kinds k_values k_temporaryKinds k_newKinds k_newValues]) hP [1] (C0 := [B_k cI cM a_k a_k_staticType a_k_dynamicType a_k_target a_k_argumentCounts a_k_temporaryCounts a_k_keys a_k_kinds a_k_values a_k_temporaryKinds a_k_newKinds a_k_newValues k_count k_frozenSet k_staticType k_dynamicType k_target k_argumentCounts k_temporaryCounts k_keys k_kinds k_values k_temporaryKinds k_newKinds k_newValues]) rfl rfl
        refine kV (As := [.int y2, .int y3]) (rest := [.ref a_e, .int y3, .ref a_e_arguments]) SS hKK (qX0_kindOf l D cI cM a_k a_k_staticType a_k_dynamicType a_k_target a_k_argumentCounts a_k_temporaryCounts a_k_keys a_k_kinds a_k_values a_k_temporaryKinds a_k_newKinds a_k_newValues k_count k_frozenSet k_staticType k_dynamicType k_target k_argumentCounts k_temporaryCounts k_keys k_kinds k_values k_temporaryKinds k_newKinds k_newValues y2 y3 v3 ev3) cw38 hs4 0 0 rfl rfl rfl hl.1 rfl (Nat.le_of_ble_eq_true rfl) dX2_evaluate_60 ⟨Nat.zero_le _, Nat.zero_le _⟩ ?_
        refine lv_aload_n hx hb dX2_evaluate_63 rfl (lv_at hl 1 rfl) ?_
        refine lv_iload_n hx hb dX2_evaluate_64 rfl (lv_at hl 2 rfl) ?_
        refine lv_iload_n hx hb dX2_evaluate_65 rfl (lv_at hl 3 rfl) ?_
        obtain ⟨v5, ev5, h⟩ := bn_some h
        refine kV (As := [.int y2, .int y3]) (rest := [.int v3, .ref a_e, .int y3, .ref a_e_arguments]) SS hKK (qX0_valueOf l D cI cM a_k a_k_staticType a_k_dynamicType a_k_target a_k_argumentCounts a_k_temporaryCounts a_k_keys a_k_kinds a_k_values a_k_temporaryKinds a_k_newKinds a_k_newValues k_count k_frozenSet k_staticType k_dynamicType k_target k_argumentCounts k_temporaryCounts k_keys k_kinds k_values k_temporaryKinds k_newKinds k_newValues y2 y3 v5 ev5) cw41 hs4 0 0 rfl rfl rfl hl.1 rfl (Nat.le_of_ble_eq_true rfl) dX2_evaluate_66 ⟨Nat.zero_le _, Nat.zero_le _⟩ ?_
        obtain ⟨v6, g7, ev6, h⟩ := bn2_some h
        refine kVB (As := [.int v3, .int v5]) (rest := [.int y3, .ref a_e_arguments]) (st1 := [.int v6, .int y3, .ref a_e_arguments]) (Bs := [B_e cI cM a_e a_e_temporaries a_e_arguments e_counter e_temporaries e_arguments, B_k cI cM a_k a_k_staticType a_k_dynamicType a_k_target a_k_argumentCounts a_k_temporaryCounts a_k_keys a_k_kinds a_k_values a_k_temporaryKinds a_k_newKinds a_k_newValues k_count k_frozenSet k_staticType k_dynamicType k_target k_argumentCounts k_temporaryCounts k_keys k_kinds k_values k_temporaryKinds k_newKinds k_newValues]) (Bs1 := [B_e cI cM a_e a_e_temporaries a_e_arguments g7 e_temporaries e_arguments, B_k cI cM a_k a_k_staticType a_k_dynamicType a_k_target a_k_argumentCounts a_k_temporaryCounts a_k_keys a_k_kinds a_k_values a_k_temporaryKinds a_k_newKinds a_k_newValues k_count k_frozenSet k_staticType k_dynamicType k_target k_argumentCounts k_temporaryCounts k_keys k_kinds k_values k_temporaryKinds k_newKinds k_newValues]) SS hKK (qX2_valueOf l D cI cM a_e a_e_temporaries a_e_arguments e_counter e_temporaries e_arguments v3 v5 v6 g7 ev6) cw44 hP hD hS (isC := [0]) (isR := [1]) (C0 := [B_e cI cM a_e a_e_temporaries a_e_arguments e_counter e_temporaries e_arguments]) (C1 := [B_e cI cM a_e a_e_temporaries a_e_arguments g7 e_temporaries e_arguments]) (Rr := [B_k cI cM a_k a_k_staticType a_k_dynamicType a_k_target a_k_argumentCounts a_k_temporaryCounts a_k_keys a_k_kinds a_k_values a_k_temporaryKinds a_k_newKinds a_k_newValues k_count k_frozenSet k_staticType k_dynamicType k_target k_argumentCounts k_temporaryCounts k_keys k_kinds k_values k_temporaryKinds k_newKinds k_newValues]) (show (List.range 2).Perm ([0] ++ [1]) by decide) rfl rfl rfl rfl rfl rfl rfl rfl 0 2 rfl rfl rfl hl.1 rfl (Nat.le_of_ble_eq_true rfl) dX2_evaluate_69 ⟨Nat.zero_le _, Nat.zero_le _⟩ rfl (fun H locs hP hD hS => ?_)
        have hP : va_P D vwCl (W_e_k cI cM a_e a_e_temporaries a_e_arguments a_k a_k_staticType a_k_dynamicType a_k_target a_k_argumentCounts a_k_temporaryCounts a_k_keys a_k_kinds a_k_values a_k_temporaryKinds a_k_newKinds a_k_newValues g7 e_temporaries e_arguments k_count k_frozenSet k_staticType k_dynamicType k_target k_argumentCounts k_temporaryCounts k_keys k_kinds k_values k_temporaryKinds k_newKinds k_newValues) H := hP
        have hD : va_D _ (W_e_k cI cM a_e a_e_temporaries a_e_arguments a_k a_k_staticType a_k_dynamicType a_k_target a_k_argumentCounts a_k_temporaryCounts a_k_keys a_k_kinds a_k_values a_k_temporaryKinds a_k_newKinds a_k_newValues g7 e_temporaries e_arguments k_count k_frozenSet k_staticType k_dynamicType k_target k_argumentCounts k_temporaryCounts k_keys k_kinds k_values k_temporaryKinds k_newKinds k_newValues) := hD
        obtain ⟨g8, ig8, eg8, h⟩ := wr_some h
        refine kAst hx hb hKK hP hD hS 2 rfl ig8 eg8 dX2_evaluate_72 (fun H locs hP hD hS => ?_)
        have hP : va_P D vwCl (W_e_k cI cM a_e a_e_temporaries a_e_arguments a_k a_k_staticType a_k_dynamicType a_k_target a_k_argumentCounts a_k_temporaryCounts a_k_keys a_k_kinds a_k_values a_k_temporaryKinds a_k_newKinds a_k_newValues g7 e_temporaries g8 k_count k_frozenSet k_staticType k_dynamicType k_target k_argumentCounts k_temporaryCounts k_keys k_kinds k_values k_temporaryKinds k_newKinds k_newValues) H := hP
        have hD : va_D _ (W_e_k cI cM a_e a_e_temporaries a_e_arguments a_k a_k_staticType a_k_dynamicType a_k_target a_k_argumentCounts a_k_temporaryCounts a_k_keys a_k_kinds a_k_values a_k_temporaryKinds a_k_newKinds a_k_newValues g7 e_temporaries g8 k_count k_frozenSet k_staticType k_dynamicType k_target k_argumentCounts k_temporaryCounts k_keys k_kinds k_values k_temporaryKinds k_newKinds k_newValues) := hD
        refine lv_iinc (v := y3 + 1) (lv' := [(3, .int (y3 + 1)), (0, .ref a_e), (1, .ref a_k), (2, .int y2)]) hx hb dX2_evaluate_73 hl (k := 3) rfl rfl (by decide) rfl (fun ls hl => ?_)
        refine lv_goto (tgt := 41) hx hb dX2_evaluate_76 (by decide) ?_
        exact ih H locs g7 e_temporaries g8 y2 (y3 + 1) h hP hD hS ls (lv_sub (l' := [(0, .ref a_e), (1, .ref a_k), (2, .int y2), (3, .int (y3 + 1))]) hl [1, 2, 3, 0] rfl)
  have F7 : ∀ (n : Nat) (H : Heap) (locs : List Loc) (e_counter : Int32) (e_temporaries : Nat → Int32) (e_arguments : Nat → Int32) (y2 : Int32) (y3 : Int32), lX2_evaluate_7 k_argumentCounts k_temporaryCounts k_kinds k_values k_temporaryKinds n e_counter e_temporaries e_arguments y2 y3 = some (r_e_counter, r_e_temporaries, r_e_arguments) → va_P D vwCl (W_e_k cI cM a_e a_e_temporaries a_e_arguments a_k a_k_staticType a_k_dynamicType a_k_target a_k_argumentCounts a_k_temporaryCounts a_k_keys a_k_kinds a_k_values a_k_temporaryKinds a_k_newKinds a_k_newValues e_counter e_temporaries e_arguments k_count k_frozenSet k_staticType k_dynamicType k_target k_argumentCounts k_temporaryCounts k_keys k_kinds k_values k_temporaryKinds k_newKinds k_newValues) H → va_D (fun q => q ∈ (w0).map (·.1)) (W_e_k cI cM a_e a_e_temporaries a_e_arguments a_k a_k_staticType a_k_dynamicType a_k_target a_k_argumentCounts a_k_temporaryCounts a_k_keys a_k_kinds a_k_values a_k_temporaryKinds a_k_newKinds a_k_newValues e_counter e_temporaries e_arguments k_count k_frozenSet k_staticType k_dynamicType k_target k_argumentCounts k_temporaryCounts k_keys k_kinds k_values k_temporaryKinds k_newKinds k_newValues) → va_S (fun q => q ∈ (w0).map (·.1)) s.heap H locs → ∀ ls : Array Slot, lv_has ls 4 [(0, .ref a_e), (1, .ref a_k), (2, .int y2), (3, .int y3)] → WI p l e rmX2_evaluate s m av below meth c D w0 w1 none H locs 7 ls [] := by
    intro n
    induction n with
    | zero => intro H locs e_counter e_temporaries e_arguments y2 y3 h; exact no_some h
    | succ n ih =>
      intro H locs e_counter e_temporaries e_arguments y2 y3 h hP hD hS ls hl
      rw [lX2_evaluate_7_s] at h
      refine lv_iload_n hx hb dX2_evaluate_7 rfl (lv_at hl 3 rfl) ?_
      refine lv_aload_n hx hb dX2_evaluate_8 rfl (lv_at hl 1 rfl) ?_
      refine va_get (D := D) (ci := 0) (v := .ref a_k_temporaryCounts) (C := RX0) (T := TX0) (N := 13) hx hb hts hinX0 hown hKK.1 hP 3 rfl rfl 6 (by decide) lk22 (fun _ h9 => h9) rfl dX2_evaluate_9 ?_
      refine lv_iload_n hx hb dX2_evaluate_12 rfl (lv_at hl 2 rfl) ?_
      obtain ⟨v1, iv1, ev1, h⟩ := rd_some h
      refine kAld hx hb hKK hP 8 rfl iv1 ev1 dX2_evaluate_13 ?_
      refine lv_icmp_ge (tgt := 39) hx hb dX2_evaluate_14 (by decide) (fun c2 => ?_) (fun c2 => ?_)
      · have h := ifp h c2
        refine lv_iconst (v := 0) hx hb dX2_evaluate_39 (by decide) ?_
        refine lv_istore_n (lv' := [(3, .int 0), (0, .ref a_e), (1, .ref a_k), (2, .int y2)]) hx hb dX2_evaluate_40 rfl hl (by decide) rfl (fun ls hl => ?_)
        exact F41 5000 H locs e_counter e_temporaries e_arguments y2 0 h hP hD hS ls (lv_sub (l' := [(0, .ref a_e), (1, .ref a_k), (2, .int y2), (3, .int 0)]) hl [1, 2, 3, 0] rfl)
      · have h := ifn h c2
        refine lv_aload_n hx hb dX2_evaluate_17 rfl (lv_at hl 0 rfl) ?_
        refine va_get (D := D) (ci := 2) (v := .ref a_e_temporaries) (C := RX2) (T := TX2) (N := 3) hx hb hts hinX2 hown hKK.1 hP 0 rfl rfl 1 (by decide) lk9 (fun _ h9 => h9) rfl dX2_evaluate_18 ?_
        refine lv_iload_n hx hb dX2_evaluate_21 rfl (lv_at hl 3 rfl) ?_
        refine lv_aload_n hx hb dX2_evaluate_22 rfl (lv_at hl 0 rfl) ?_
        refine lv_aload_n hx hb dX2_evaluate_23 rfl (lv_at hl 1 rfl) ?_
        refine lv_iload_n hx hb dX2_evaluate_24 rfl (lv_at hl 2 rfl) ?_
        refine lv_iload_n hx hb dX2_evaluate_25 rfl (lv_at hl 3 rfl) ?_
        obtain ⟨v3, ev3, h⟩ := bn_some h
        have hs4 : va_P D vwCl (W_k cI cM a_k a_k_staticType a_k_dynamicType a_k_target a_k_argumentCounts a_k_temporaryCounts a_k_keys a_k_kinds a_k_values a_k_temporaryKinds a_k_newKinds a_k_newValues k_count k_frozenSet k_staticType k_dynamicType k_target k_argumentCounts k_temporaryCounts k_keys k_kinds k_values k_temporaryKinds k_newKinds k_newValues) _ := blkP (Bs := [B_e cI cM a_e a_e_temporaries a_e_arguments e_counter e_temporaries e_arguments, B_k cI cM a_k a_k_staticType a_k_dynamicType a_k_target a_k_argumentCounts a_k_temporaryCounts a_k_keys a_k_kinds a_k_values a_k_temporaryKinds a_k_newKinds a_k_newValues k_count k_frozenSet k_staticType k_dynamicType k_target k_argumentCounts k_temporaryCounts k_keys k_kinds k_values k_temporaryKinds k_newKinds k_newValues]) hP [1] (C0 := [B_k cI cM a_k a_k_staticType a_k_dynamicType a_k_target a_k_argumentCounts a_k_temporaryCounts a_k_keys a_k_kinds a_k_values a_k_temporaryKinds a_k_newKinds a_k_newValues k_count k_frozenSet k_staticType k_dynamicType k_target k_argumentCounts k_temporaryCounts k_keys k_kinds k_values k_temporaryKinds k_newKinds k_newValues]) rfl rfl
        refine kV (As := [.int y2, .int y3]) (rest := [.ref a_e, .int y3, .ref a_e_temporaries]) SS hKK (qX0_temporaryKindOf l D cI cM a_k a_k_staticType a_k_dynamicType a_k_target a_k_argumentCounts a_k_temporaryCounts a_k_keys a_k_kinds a_k_values a_k_temporaryKinds a_k_newKinds a_k_newValues k_count k_frozenSet k_staticType k_dynamicType k_target k_argumentCounts k_temporaryCounts k_keys k_kinds k_values k_temporaryKinds k_newKinds k_newValues y2 y3 v3 ev3) cw27 hs4 0 0 rfl rfl rfl hl.1 rfl (Nat.le_of_ble_eq_true rfl) dX2_evaluate_26 ⟨Nat.zero_le _, Nat.zero_le _⟩ ?_
        obtain ⟨v5, g6, ev5, h⟩ := bn2_some h
        refine kVB (As := [.int v3]) (rest := [.int y3, .ref a_e_temporaries]) (st1 := [.int v5, .int y3, .ref a_e_temporaries]) (Bs := [B_e cI cM a_e a_e_temporaries a_e_arguments e_counter e_temporaries e_arguments, B_k cI cM a_k a_k_staticType a_k_dynamicType a_k_target a_k_argumentCounts a_k_temporaryCounts a_k_keys a_k_kinds a_k_values a_k_temporaryKinds a_k_newKinds a_k_newValues k_count k_frozenSet k_staticType k_dynamicType k_target k_argumentCounts k_temporaryCounts k_keys k_kinds k_values k_temporaryKinds k_newKinds k_newValues]) (Bs1 := [B_e cI cM a_e a_e_temporaries a_e_arguments g6 e_temporaries e_arguments, B_k cI cM a_k a_k_staticType a_k_dynamicType a_k_target a_k_argumentCounts a_k_temporaryCounts a_k_keys a_k_kinds a_k_values a_k_temporaryKinds a_k_newKinds a_k_newValues k_count k_frozenSet k_staticType k_dynamicType k_target k_argumentCounts k_temporaryCounts k_keys k_kinds k_values k_temporaryKinds k_newKinds k_newValues]) SS hKK (qX2_readOrTick l D cI cM a_e a_e_temporaries a_e_arguments e_counter e_temporaries e_arguments v3 v5 g6 ev5) cw31 hP hD hS (isC := [0]) (isR := [1]) (C0 := [B_e cI cM a_e a_e_temporaries a_e_arguments e_counter e_temporaries e_arguments]) (C1 := [B_e cI cM a_e a_e_temporaries a_e_arguments g6 e_temporaries e_arguments]) (Rr := [B_k cI cM a_k a_k_staticType a_k_dynamicType a_k_target a_k_argumentCounts a_k_temporaryCounts a_k_keys a_k_kinds a_k_values a_k_temporaryKinds a_k_newKinds a_k_newValues k_count k_frozenSet k_staticType k_dynamicType k_target k_argumentCounts k_temporaryCounts k_keys k_kinds k_values k_temporaryKinds k_newKinds k_newValues]) (show (List.range 2).Perm ([0] ++ [1]) by decide) rfl rfl rfl rfl rfl rfl rfl rfl 0 2 rfl rfl rfl hl.1 rfl (Nat.le_of_ble_eq_true rfl) dX2_evaluate_29 ⟨Nat.zero_le _, Nat.zero_le _⟩ rfl (fun H locs hP hD hS => ?_)
        have hP : va_P D vwCl (W_e_k cI cM a_e a_e_temporaries a_e_arguments a_k a_k_staticType a_k_dynamicType a_k_target a_k_argumentCounts a_k_temporaryCounts a_k_keys a_k_kinds a_k_values a_k_temporaryKinds a_k_newKinds a_k_newValues g6 e_temporaries e_arguments k_count k_frozenSet k_staticType k_dynamicType k_target k_argumentCounts k_temporaryCounts k_keys k_kinds k_values k_temporaryKinds k_newKinds k_newValues) H := hP
        have hD : va_D _ (W_e_k cI cM a_e a_e_temporaries a_e_arguments a_k a_k_staticType a_k_dynamicType a_k_target a_k_argumentCounts a_k_temporaryCounts a_k_keys a_k_kinds a_k_values a_k_temporaryKinds a_k_newKinds a_k_newValues g6 e_temporaries e_arguments k_count k_frozenSet k_staticType k_dynamicType k_target k_argumentCounts k_temporaryCounts k_keys k_kinds k_values k_temporaryKinds k_newKinds k_newValues) := hD
        obtain ⟨g7, ig7, eg7, h⟩ := wr_some h
        refine kAst hx hb hKK hP hD hS 1 rfl ig7 eg7 dX2_evaluate_32 (fun H locs hP hD hS => ?_)
        have hP : va_P D vwCl (W_e_k cI cM a_e a_e_temporaries a_e_arguments a_k a_k_staticType a_k_dynamicType a_k_target a_k_argumentCounts a_k_temporaryCounts a_k_keys a_k_kinds a_k_values a_k_temporaryKinds a_k_newKinds a_k_newValues g6 g7 e_arguments k_count k_frozenSet k_staticType k_dynamicType k_target k_argumentCounts k_temporaryCounts k_keys k_kinds k_values k_temporaryKinds k_newKinds k_newValues) H := hP
        have hD : va_D _ (W_e_k cI cM a_e a_e_temporaries a_e_arguments a_k a_k_staticType a_k_dynamicType a_k_target a_k_argumentCounts a_k_temporaryCounts a_k_keys a_k_kinds a_k_values a_k_temporaryKinds a_k_newKinds a_k_newValues g6 g7 e_arguments k_count k_frozenSet k_staticType k_dynamicType k_target k_argumentCounts k_temporaryCounts k_keys k_kinds k_values k_temporaryKinds k_newKinds k_newValues) := hD
        refine lv_iinc (v := y3 + 1) (lv' := [(3, .int (y3 + 1)), (0, .ref a_e), (1, .ref a_k), (2, .int y2)]) hx hb dX2_evaluate_33 hl (k := 3) rfl rfl (by decide) rfl (fun ls hl => ?_)
        refine lv_goto (tgt := 7) hx hb dX2_evaluate_36 (by decide) ?_
        exact ih H locs g6 g7 e_arguments y2 (y3 + 1) h hP hD hS ls (lv_sub (l' := [(0, .ref a_e), (1, .ref a_k), (2, .int y2), (3, .int (y3 + 1))]) hl [1, 2, 3, 0] rfl)
  unfold fX2_evaluate at h
  refine lv_aload_n hx hb dX2_evaluate_0 rfl (lv_at hl 0 rfl) ?_
  refine lv_iconst (v := 0) hx hb dX2_evaluate_1 (by decide) ?_
  refine va_put (D := D) (ci := 2) (v := .int 0) (ty := .int) (C := RX2) (T := TX2) (N := 3) hx hb hts hinX2 tyX2 tyX2_ok nmX2 hown hKK.1 hP hD hS 0 rfl rfl 0 (by decide) lk18 (fun _ h9 => h9) rfl (by decide +kernel) rfl rfl (Nat.le_of_ble_eq_true rfl) dX2_evaluate_2 (fun H locs hP hD hS => ?_)
  have hP : va_P D vwCl (W_e_k cI cM a_e a_e_temporaries a_e_arguments a_k a_k_staticType a_k_dynamicType a_k_target a_k_argumentCounts a_k_temporaryCounts a_k_keys a_k_kinds a_k_values a_k_temporaryKinds a_k_newKinds a_k_newValues 0 e_temporaries e_arguments k_count k_frozenSet k_staticType k_dynamicType k_target k_argumentCounts k_temporaryCounts k_keys k_kinds k_values k_temporaryKinds k_newKinds k_newValues) H := hP
  have hD : va_D _ (W_e_k cI cM a_e a_e_temporaries a_e_arguments a_k a_k_staticType a_k_dynamicType a_k_target a_k_argumentCounts a_k_temporaryCounts a_k_keys a_k_kinds a_k_values a_k_temporaryKinds a_k_newKinds a_k_newValues 0 e_temporaries e_arguments k_count k_frozenSet k_staticType k_dynamicType k_target k_argumentCounts k_temporaryCounts k_keys k_kinds k_values k_temporaryKinds k_newKinds k_newValues) := hD
  refine lv_iconst (v := 0) hx hb dX2_evaluate_5 (by decide) ?_
  refine lv_istore_n (lv' := [(3, .int 0), (0, .ref a_e), (1, .ref a_k), (2, .int x2)]) hx hb dX2_evaluate_6 rfl hl (by decide) rfl (fun ls hl => ?_)
  exact F7 5000 H locs 0 e_temporaries e_arguments x2 0 h hP hD hS ls (lv_sub (l' := [(0, .ref a_e), (1, .ref a_k), (2, .int x2), (3, .int 0)]) hl [1, 2, 3, 0] rfl)
set_option maxHeartbeats 8000000 in
set_option maxRecDepth 100000 in
theorem qX2_received (l : Launch) (D : va_G) (cI cM : ClassId) (a_e a_e_temporaries a_e_arguments a_k a_k_staticType a_k_dynamicType a_k_target a_k_argumentCounts a_k_temporaryCounts a_k_keys a_k_kinds a_k_values a_k_temporaryKinds a_k_newKinds a_k_newValues : Nat) (e_counter : Int32) (e_temporaries : Nat → Int32) (e_arguments : Nat → Int32) (k_count : Int32) (k_frozenSet : Int32) (k_staticType : Nat → Int32) (k_dynamicType : Nat → Int32) (k_target : Nat → Int32) (k_argumentCounts : Nat → Int32) (k_temporaryCounts : Nat → Int32) (k_keys : Nat → Int32) (k_kinds : Nat → Int32) (k_values : Nat → Int32) (k_temporaryKinds : Nat → Int32) (k_newKinds : Nat → Int32) (k_newValues : Nat → Int32) (x2 : Int32) (x3 : Int32) (x4 : Int32) (r : Int32) (h : fX2_received e_arguments k_argumentCounts k_keys x2 x3 x4 = some r) : PM l yX2_received wsX2_received rmX2_received D cI cM [.ref a_e, .ref a_k, .int x2, .int x3, .int x4] (W_e_k cI cM a_e a_e_temporaries a_e_arguments a_k a_k_staticType a_k_dynamicType a_k_target a_k_argumentCounts a_k_temporaryCounts a_k_keys a_k_kinds a_k_values a_k_temporaryKinds a_k_newKinds a_k_newValues e_counter e_temporaries e_arguments k_count k_frozenSet k_staticType k_dynamicType k_target k_argumentCounts k_temporaryCounts k_keys k_kinds k_values k_temporaryKinds k_newKinds k_newValues) r := by
  refine PM.of (cc := cX2_received) (maxL := 6) (ret := (some .int)) (by decide) rfl (Nat.le_of_ble_eq_true rfl) ?_
  intro p e s m below meth c ls hx hb hr hml hown hts hlk hP hKK hl
  have hown : s.vm.findClass RX2 = some m.cls := hown
  have hl : lv_has ls 6 [(0, .ref a_e), (1, .ref a_k), (2, .int x2), (3, .int x3), (4, .int x4)] := hl
  generalize hav : ([.ref a_e, .ref a_k, .int x2, .int x3, .int x4] : List Value) = av at hts ⊢
  have SS : CallFix p m c cX2_received 6 s av.toArray wsX2_received RX2 := ⟨hx, hb, hml, hown, hts⟩
  have hinX0 : ∀ w ∈ u_ws RX0 TX0 13, w ∈ wsX2_received := by decide +kernel
  have hinX2 : ∀ w ∈ u_ws RX2 TX2 3, w ∈ wsX2_received := by decide +kernel
  have lk15 := hts (.fieldLink RX2 15 "SignatureChanger$Evaluation" "arguments" "[I") (List.mem_of_getElem? (i := 2) rfl)
  have lk35 := hts (.fieldLink RX2 35 "SignatureChanger$Calls" "argumentCounts" "[I") (List.mem_of_getElem? (i := 1) rfl)
  have cw63 : CallW rmX2_received s av.toArray RX2 RX0 63 yX0_keyOf cX0_keyOf 3 (some .int) wsX0_keyOf rmX0_keyOf 0 0 2 := cwV 2 hts gX2_received_X0_keyOf rfl rfl rfl (by decide +kernel) ⟨Nat.le_of_ble_eq_true rfl, Nat.le_of_ble_eq_true rfl⟩
  have F3 : ∀ (n : Nat) (y2 : Int32) (y3 : Int32) (y4 : Int32) (y5 : Int32), lX2_received_3 e_arguments k_argumentCounts k_keys n y2 y3 y4 y5 = some r → ∀ ls : Array Slot, lv_has ls 6 [(0, .ref a_e), (1, .ref a_k), (2, .int y2), (3, .int y3), (4, .int y4), (5, .int y5)] → WP p l e rmX2_received s m av below meth c r 3 ls [] := by
    intro n
    induction n with
    | zero => intro y2 y3 y4 y5 h; exact no_some h
    | succ n ih =>
      intro y2 y3 y4 y5 h ls hl
      rw [lX2_received_3_s] at h
      refine lv_iload hx hb dX2_received_3 (lv_at hl 5 rfl) ?_
      refine lv_aload_n hx hb dX2_received_5 rfl (lv_at hl 1 rfl) ?_
      refine va_get (D := D) (ci := 0) (v := .ref a_k_argumentCounts) (C := RX0) (T := TX0) (N := 13) hx hb hts hinX0 hown hKK.1 hP 3 rfl rfl 5 (by decide) lk35 (fun _ h9 => h9) rfl dX2_received_6 ?_
      refine lv_iload_n hx hb dX2_received_9 rfl (lv_at hl 2 rfl) ?_
      obtain ⟨v1, iv1, ev1, h⟩ := rd_some h
      refine kAld hx hb hKK hP 7 rfl iv1 ev1 dX2_received_10 ?_
      refine lv_icmp_ge (tgt := 39) hx hb dX2_received_11 (by decide) (fun c2 => ?_) (fun c2 => ?_)
      · have h := ifp h c2
        refine lv_iload hx hb dX2_received_39 (lv_at hl 4 rfl) ?_
        exact kRet hx hb hr hlk (Option.some.inj h) dX2_received_41
      · have h := ifn h c2
        refine lv_aload_n hx hb dX2_received_14 rfl (lv_at hl 1 rfl) ?_
        refine lv_iload_n hx hb dX2_received_15 rfl (lv_at hl 2 rfl) ?_
        refine lv_iload hx hb dX2_received_16 (lv_at hl 5 rfl) ?_
        obtain ⟨v3, ev3, h⟩ := bn_some h
        have hs4 : va_P D vwCl (W_k cI cM a_k a_k_staticType a_k_dynamicType a_k_target a_k_argumentCounts a_k_temporaryCounts a_k_keys a_k_kinds a_k_values a_k_temporaryKinds a_k_newKinds a_k_newValues k_count k_frozenSet k_staticType k_dynamicType k_target k_argumentCounts k_temporaryCounts k_keys k_kinds k_values k_temporaryKinds k_newKinds k_newValues) _ := blkP (Bs := [B_e cI cM a_e a_e_temporaries a_e_arguments e_counter e_temporaries e_arguments, B_k cI cM a_k a_k_staticType a_k_dynamicType a_k_target a_k_argumentCounts a_k_temporaryCounts a_k_keys a_k_kinds a_k_values a_k_temporaryKinds a_k_newKinds a_k_newValues k_count k_frozenSet k_staticType k_dynamicType k_target k_argumentCounts k_temporaryCounts k_keys k_kinds k_values k_temporaryKinds k_newKinds k_newValues]) hP [1] (C0 := [B_k cI cM a_k a_k_staticType a_k_dynamicType a_k_target a_k_argumentCounts a_k_temporaryCounts a_k_keys a_k_kinds a_k_values a_k_temporaryKinds a_k_newKinds a_k_newValues k_count k_frozenSet k_staticType k_dynamicType k_target k_argumentCounts k_temporaryCounts k_keys k_kinds k_values k_temporaryKinds k_newKinds k_newValues]) rfl rfl
        refine kV (As := [.int y2, .int y5]) (rest := []) SS hKK (qX0_keyOf l D cI cM a_k a_k_staticType a_k_dynamicType a_k_target a_k_argumentCounts a_k_temporaryCounts a_k_keys a_k_kinds a_k_values a_k_temporaryKinds a_k_newKinds a_k_newValues k_count k_frozenSet k_staticType k_dynamicType k_target k_argumentCounts k_temporaryCounts k_keys k_kinds k_values k_temporaryKinds k_newKinds k_newValues y2 y5 v3 ev3) cw63 hs4 0 0 rfl rfl rfl hl.1 rfl (Nat.le_of_ble_eq_true rfl) dX2_received_18 ⟨Nat.zero_le _, Nat.zero_le _⟩ ?_
        refine lv_iload_n hx hb dX2_received_21 rfl (lv_at hl 3 rfl) ?_
        refine lv_icmp_ne (tgt := 33) hx hb dX2_received_22 (by decide) (fun c5 => ?_) (fun c5 => ?_)
        · have h := ifn h c5
          refine lv_iinc (v := y5 + 1) (lv' := [(5, .int (y5 + 1)), (0, .ref a_e), (1, .ref a_k), (2, .int y2), (3, .int y3), (4, .int y4)]) hx hb dX2_received_33 hl (k := 5) rfl rfl (by decide) rfl (fun ls hl => ?_)
          refine lv_goto (tgt := 3) hx hb dX2_received_36 (by decide) ?_
          exact ih y2 y3 y4 (y5 + 1) h ls (lv_sub (l' := [(0, .ref a_e), (1, .ref a_k), (2, .int y2), (3, .int y3), (4, .int y4), (5, .int (y5 + 1))]) hl [1, 2, 3, 4, 5, 0] rfl)
        · have h := ifp h c5
          refine lv_aload_n hx hb dX2_received_25 rfl (lv_at hl 0 rfl) ?_
          refine va_get (D := D) (ci := 2) (v := .ref a_e_arguments) (C := RX2) (T := TX2) (N := 3) hx hb hts hinX2 hown hKK.1 hP 0 rfl rfl 2 (by decide) lk15 (fun _ h9 => h9) rfl dX2_received_26 ?_
          refine lv_iload hx hb dX2_received_29 (lv_at hl 5 rfl) ?_
          obtain ⟨v6, iv6, ev6, h⟩ := rd_some h
          refine kAld hx hb hKK hP 2 rfl iv6 ev6 dX2_received_31 ?_
          exact kRet hx hb hr hlk (Option.some.inj h) dX2_received_32
  unfold fX2_received at h
  refine lv_iconst (v := 0) hx hb dX2_received_0 (by decide) ?_
  refine lv_istore (lv' := [(5, .int 0), (0, .ref a_e), (1, .ref a_k), (2, .int x2), (3, .int x3), (4, .int x4)]) hx hb dX2_received_1 hl (by decide) rfl (fun ls hl => ?_)
  exact F3 5000 x2 x3 x4 0 h ls (lv_sub (l' := [(0, .ref a_e), (1, .ref a_k), (2, .int x2), (3, .int x3), (4, .int x4), (5, .int 0)]) hl [1, 2, 3, 4, 5, 0] rfl)
set_option maxHeartbeats 8000000 in
set_option maxRecDepth 100000 in
theorem qX2_resultOf (l : Launch) (D : va_G) (cI cM : ClassId) (a_e a_e_temporaries a_e_arguments a_m a_m_type a_m_name a_m_arity a_m_keys a_m_defaults a_k a_k_staticType a_k_dynamicType a_k_target a_k_argumentCounts a_k_temporaryCounts a_k_keys a_k_kinds a_k_values a_k_temporaryKinds a_k_newKinds a_k_newValues : Nat) (e_counter : Int32) (e_temporaries : Nat → Int32) (e_arguments : Nat → Int32) (m_count : Int32) (m_type : Nat → Int32) (m_name : Nat → Int32) (m_arity : Nat → Int32) (m_keys : Nat → Int32) (m_defaults : Nat → Int32) (k_count : Int32) (k_frozenSet : Int32) (k_staticType : Nat → Int32) (k_dynamicType : Nat → Int32) (k_target : Nat → Int32) (k_argumentCounts : Nat → Int32) (k_temporaryCounts : Nat → Int32) (k_keys : Nat → Int32) (k_kinds : Nat → Int32) (k_values : Nat → Int32) (k_temporaryKinds : Nat → Int32) (k_newKinds : Nat → Int32) (k_newValues : Nat → Int32) (x2 : Int32) (x4 : Int32) (r : Int32) (h : fX2_resultOf e_arguments m_type m_arity m_keys m_defaults k_argumentCounts k_keys x2 x4 = some r) : PM l yX2_resultOf wsX2_resultOf rmX2_resultOf D cI cM [.ref a_e, .ref a_m, .int x2, .ref a_k, .int x4] (W_e_m_k cI cM a_e a_e_temporaries a_e_arguments a_m a_m_type a_m_name a_m_arity a_m_keys a_m_defaults a_k a_k_staticType a_k_dynamicType a_k_target a_k_argumentCounts a_k_temporaryCounts a_k_keys a_k_kinds a_k_values a_k_temporaryKinds a_k_newKinds a_k_newValues e_counter e_temporaries e_arguments m_count m_type m_name m_arity m_keys m_defaults k_count k_frozenSet k_staticType k_dynamicType k_target k_argumentCounts k_temporaryCounts k_keys k_kinds k_values k_temporaryKinds k_newKinds k_newValues) r := by
  refine PM.of (cc := cX2_resultOf) (maxL := 8) (ret := (some .int)) (by decide) rfl (Nat.le_of_ble_eq_true rfl) ?_
  intro p e s m below meth c ls hx hb hr hml hown hts hlk hP hKK hl
  have hown : s.vm.findClass RX2 = some m.cls := hown
  have hl : lv_has ls 8 [(0, .ref a_e), (1, .ref a_m), (2, .int x2), (3, .ref a_k), (4, .int x4)] := hl
  generalize hav : ([.ref a_e, .ref a_m, .int x2, .ref a_k, .int x4] : List Value) = av at hts ⊢
  have SS : CallFix p m c cX2_resultOf 8 s av.toArray wsX2_resultOf RX2 := ⟨hx, hb, hml, hown, hts⟩
  have hinX5 : ∀ w ∈ u_ws RX5 TX5 6, w ∈ wsX2_resultOf := by decide +kernel
  have lk45 := hts (.fieldLink RX2 45 "SignatureChanger$Methods" "type" "[I") (List.mem_of_getElem? (i := 1) rfl)
  have lk50 := hts (.fieldLink RX2 50 "SignatureChanger$Methods" "arity" "[I") (List.mem_of_getElem? (i := 2) rfl)
  have cw53 : CallW rmX2_resultOf s av.toArray RX2 RX5 53 yX5_keyOf cX5_keyOf 3 (some .int) wsX5_keyOf rmX5_keyOf 0 0 2 := cwV 2 hts gX2_resultOf_X5_keyOf rfl rfl rfl (by decide +kernel) ⟨Nat.le_of_ble_eq_true rfl, Nat.le_of_ble_eq_true rfl⟩
  have cw56 : CallW rmX2_resultOf s av.toArray RX2 RX5 56 yX5_defaultOf cX5_defaultOf 3 (some .int) wsX5_defaultOf rmX5_defaultOf 0 0 2 := cwV 2 hts gX2_resultOf_X5_defaultOf rfl rfl rfl (by decide +kernel) ⟨Nat.le_of_ble_eq_true rfl, Nat.le_of_ble_eq_true rfl⟩
  have cw59 : CallW rmX2_resultOf s av.toArray RX2 RX2 59 yX2_received cX2_received 6 (some .int) wsX2_received rmX2_received 0 0 4 := cwV 4 hts gX2_resultOf_X2_received rfl rfl rfl (by decide +kernel) ⟨Nat.le_of_ble_eq_true rfl, Nat.le_of_ble_eq_true rfl⟩
  have F15 : ∀ (n : Nat) (y2 : Int32) (y4 : Int32) (y5 : Int32) (y6 : Int32), lX2_resultOf_15 e_arguments m_type m_arity m_keys m_defaults k_argumentCounts k_keys n y2 y4 y5 y6 = some r → ∀ ls : Array Slot, lv_has ls 8 [(0, .ref a_e), (1, .ref a_m), (2, .int y2), (3, .ref a_k), (4, .int y4), (5, .int y5), (6, .int y6)] → WP p l e rmX2_resultOf s m av below meth c r 15 ls [] := by
    intro n
    induction n with
    | zero => intro y2 y4 y5 y6 h; exact no_some h
    | succ n ih =>
      intro y2 y4 y5 y6 h ls hl
      rw [lX2_resultOf_15_s] at h
      refine lv_iload hx hb dX2_resultOf_15 (lv_at hl 6 rfl) ?_
      refine lv_aload_n hx hb dX2_resultOf_17 rfl (lv_at hl 1 rfl) ?_
      refine va_get (D := D) (ci := 5) (v := .ref a_m_arity) (C := RX5) (T := TX5) (N := 6) hx hb hts hinX5 hown hKK.1 hP 3 rfl rfl 3 (by decide) lk50 (fun _ h9 => h9) rfl dX2_resultOf_18 ?_
      refine lv_iload_n hx hb dX2_resultOf_21 rfl (lv_at hl 2 rfl) ?_
      obtain ⟨v1, iv1, ev1, h⟩ := rd_some h
      refine kAld hx hb hKK hP 6 rfl iv1 ev1 dX2_resultOf_22 ?_
      refine lv_icmp_ge (tgt := 67) hx hb dX2_resultOf_23 (by decide) (fun c2 => ?_) (fun c2 => ?_)
      · have h := ifp h c2
        refine lv_iload hx hb dX2_resultOf_67 (lv_at hl 5 rfl) ?_
        exact kRet hx hb hr hlk (Option.some.inj h) dX2_resultOf_69
      · have h := ifn h c2
        refine lv_aload_n hx hb dX2_resultOf_26 rfl (lv_at hl 1 rfl) ?_
        refine lv_iload_n hx hb dX2_resultOf_27 rfl (lv_at hl 2 rfl) ?_
        refine lv_iload hx hb dX2_resultOf_28 (lv_at hl 6 rfl) ?_
        obtain ⟨v3, ev3, h⟩ := bn_some h
        have hs4 : va_P D vwCl (W_m cI cM a_m a_m_type a_m_name a_m_arity a_m_keys a_m_defaults m_count m_type m_name m_arity m_keys m_defaults) _ := blkP (Bs := [B_e cI cM a_e a_e_temporaries a_e_arguments e_counter e_temporaries e_arguments, B_m cI cM a_m a_m_type a_m_name a_m_arity a_m_keys a_m_defaults m_count m_type m_name m_arity m_keys m_defaults, B_k cI cM a_k a_k_staticType a_k_dynamicType a_k_target a_k_argumentCounts a_k_temporaryCounts a_k_keys a_k_kinds a_k_values a_k_temporaryKinds a_k_newKinds a_k_newValues k_count k_frozenSet k_staticType k_dynamicType k_target k_argumentCounts k_temporaryCounts k_keys k_kinds k_values k_temporaryKinds k_newKinds k_newValues]) hP [1] (C0 := [B_m cI cM a_m a_m_type a_m_name a_m_arity a_m_keys a_m_defaults m_count m_type m_name m_arity m_keys m_defaults]) rfl rfl
        refine kV (As := [.int y2, .int y6]) (rest := []) SS hKK (qX5_keyOf l D cI cM a_m a_m_type a_m_name a_m_arity a_m_keys a_m_defaults m_count m_type m_name m_arity m_keys m_defaults y2 y6 v3 ev3) cw53 hs4 0 5 rfl rfl rfl hl.1 rfl (Nat.le_of_ble_eq_true rfl) dX2_resultOf_30 ⟨Nat.zero_le _, Nat.zero_le _⟩ ?_
        refine lv_istore (lv' := [(7, .int v3), (0, .ref a_e), (1, .ref a_m), (2, .int y2), (3, .ref a_k), (4, .int y4), (5, .int y5), (6, .int y6)]) hx hb dX2_resultOf_33 hl (by decide) rfl (fun ls hl => ?_)
        refine lv_iload hx hb dX2_resultOf_35 (lv_at hl 6 rfl) ?_
        refine lv_iload hx hb dX2_resultOf_37 (lv_at hl 0 rfl) ?_
        refine lv_iconst (v := 1) hx hb dX2_resultOf_39 (by decide) ?_
        refine lv_iadd hx hb dX2_resultOf_40 ?_
        refine lv_aload_n hx hb dX2_resultOf_41 rfl (lv_at hl 1 rfl) ?_
        refine lv_aload_n hx hb dX2_resultOf_42 rfl (lv_at hl 4 rfl) ?_
        refine lv_iload hx hb dX2_resultOf_43 (lv_at hl 5 rfl) ?_
        refine lv_iload hx hb dX2_resultOf_45 (lv_at hl 0 rfl) ?_
        refine lv_aload_n hx hb dX2_resultOf_47 rfl (lv_at hl 2 rfl) ?_
        refine lv_iload_n hx hb dX2_resultOf_48 rfl (lv_at hl 3 rfl) ?_
        refine lv_iload hx hb dX2_resultOf_49 (lv_at hl 7 rfl) ?_
        obtain ⟨v5, ev5, h⟩ := bn_some h
        refine kV (As := [.int y2, .int y6]) (rest := [.int v3, .int y4, .ref a_k, .ref a_e, .int (v3 + 1), .int y5]) SS hKK (qX5_defaultOf l D cI cM a_m a_m_type a_m_name a_m_arity a_m_keys a_m_defaults m_count m_type m_name m_arity m_keys m_defaults y2 y6 v5 ev5) cw56 hs4 0 5 rfl rfl rfl hl.1 rfl (Nat.le_of_ble_eq_true rfl) dX2_resultOf_51 ⟨Nat.zero_le _, Nat.zero_le _⟩ ?_
        obtain ⟨v6, ev6, h⟩ := bn_some h
        have hs7 : va_P D vwCl (W_e_k cI cM a_e a_e_temporaries a_e_arguments a_k a_k_staticType a_k_dynamicType a_k_target a_k_argumentCounts a_k_temporaryCounts a_k_keys a_k_kinds a_k_values a_k_temporaryKinds a_k_newKinds a_k_newValues e_counter e_temporaries e_arguments k_count k_frozenSet k_staticType k_dynamicType k_target k_argumentCounts k_temporaryCounts k_keys k_kinds k_values k_temporaryKinds k_newKinds k_newValues) _ := blkP (Bs := [B_e cI cM a_e a_e_temporaries a_e_arguments e_counter e_temporaries e_arguments, B_m cI cM a_m a_m_type a_m_name a_m_arity a_m_keys a_m_defaults m_count m_type m_name m_arity m_keys m_defaults, B_k cI cM a_k a_k_staticType a_k_dynamicType a_k_target a_k_argumentCounts a_k_temporaryCounts a_k_keys a_k_kinds a_k_values a_k_temporaryKinds a_k_newKinds a_k_newValues k_count k_frozenSet k_staticType k_dynamicType k_target k_argumentCounts k_temporaryCounts k_keys k_kinds k_values k_temporaryKinds k_newKinds k_newValues]) hP [0, 2] (C0 := [B_e cI cM a_e a_e_temporaries a_e_arguments e_counter e_temporaries e_arguments, B_k cI cM a_k a_k_staticType a_k_dynamicType a_k_target a_k_argumentCounts a_k_temporaryCounts a_k_keys a_k_kinds a_k_values a_k_temporaryKinds a_k_newKinds a_k_newValues k_count k_frozenSet k_staticType k_dynamicType k_target k_argumentCounts k_temporaryCounts k_keys k_kinds k_values k_temporaryKinds k_newKinds k_newValues]) rfl rfl
        refine kV (As := [.ref a_k, .int y4, .int v3, .int v5]) (rest := [.int (v3 + 1), .int y5]) SS hKK (qX2_received l D cI cM a_e a_e_temporaries a_e_arguments a_k a_k_staticType a_k_dynamicType a_k_target a_k_argumentCounts a_k_temporaryCounts a_k_keys a_k_kinds a_k_values a_k_temporaryKinds a_k_newKinds a_k_newValues e_counter e_temporaries e_arguments k_count k_frozenSet k_staticType k_dynamicType k_target k_argumentCounts k_temporaryCounts k_keys k_kinds k_values k_temporaryKinds k_newKinds k_newValues y4 v3 v5 v6 ev6) cw59 hs7 0 2 rfl rfl rfl hl.1 rfl (Nat.le_of_ble_eq_true rfl) dX2_resultOf_54 ⟨Nat.zero_le _, Nat.zero_le _⟩ ?_
        refine lv_imul hx hb dX2_resultOf_57 ?_
        refine lv_iadd hx hb dX2_resultOf_58 ?_
        refine lv_istore (lv' := [(5, .int (y5 + ((v3 + 1) * v6))), (7, .int v3), (0, .ref a_e), (1, .ref a_m), (2, .int y2), (3, .ref a_k), (4, .int y4), (6, .int y6)]) hx hb dX2_resultOf_59 hl (by decide) rfl (fun ls hl => ?_)
        refine lv_iinc (v := y6 + 1) (lv' := [(6, .int (y6 + 1)), (5, .int (y5 + ((v3 + 1) * v6))), (7, .int v3), (0, .ref a_e), (1, .ref a_m), (2, .int y2), (3, .ref a_k), (4, .int y4)]) hx hb dX2_resultOf_61 hl (k := 7) rfl rfl (by decide) rfl (fun ls hl => ?_)
        refine lv_goto (tgt := 15) hx hb dX2_resultOf_64 (by decide) ?_
        exact ih y2 y4 (y5 + ((v3 + 1) * v6)) (y6 + 1) h ls (lv_sub (l' := [(0, .ref a_e), (1, .ref a_m), (2, .int y2), (3, .ref a_k), (4, .int y4), (5, .int (y5 + ((v3 + 1) * v6))), (6, .int (y6 + 1))]) hl [3, 4, 5, 6, 7, 1, 0] rfl)
  unfold fX2_resultOf at h
  refine lv_sipush (v := 1000) hx hb dX2_resultOf_0 (by decide) ?_
  refine lv_aload_n hx hb dX2_resultOf_3 rfl (lv_at hl 1 rfl) ?_
  refine va_get (D := D) (ci := 5) (v := .ref a_m_type) (C := RX5) (T := TX5) (N := 6) hx hb hts hinX5 hown hKK.1 hP 3 rfl rfl 1 (by decide) lk45 (fun _ h9 => h9) rfl dX2_resultOf_4 ?_
  refine lv_iload_n hx hb dX2_resultOf_7 rfl (lv_at hl 2 rfl) ?_
  obtain ⟨v1, iv1, ev1, h⟩ := rd_some h
  refine kAld hx hb hKK hP 4 rfl iv1 ev1 dX2_resultOf_8 ?_
  refine lv_imul hx hb dX2_resultOf_9 ?_
  refine lv_istore (lv' := [(5, .int (1000 * v1)), (0, .ref a_e), (1, .ref a_m), (2, .int x2), (3, .ref a_k), (4, .int x4)]) hx hb dX2_resultOf_10 hl (by decide) rfl (fun ls hl => ?_)
  refine lv_iconst (v := 0) hx hb dX2_resultOf_12 (by decide) ?_
  refine lv_istore (lv' := [(6, .int 0), (5, .int (1000 * v1)), (0, .ref a_e), (1, .ref a_m), (2, .int x2), (3, .ref a_k), (4, .int x4)]) hx hb dX2_resultOf_13 hl (by decide) rfl (fun ls hl => ?_)
  exact F15 5000 x2 x4 (1000 * v1) 0 h ls (lv_sub (l' := [(0, .ref a_e), (1, .ref a_m), (2, .int x2), (3, .ref a_k), (4, .int x4), (5, .int (1000 * v1)), (6, .int 0)]) hl [2, 3, 4, 5, 6, 1, 0] rfl)
set_option maxHeartbeats 8000000 in
set_option maxRecDepth 100000 in
theorem qX7_copyFrom (l : Launch) (D : va_G) (cI cM : ClassId) (a_t a_t_supertypes a_t2 a_t2_supertypes : Nat) (t_count : Int32) (t_interfaceSet : Int32) (t_supertypes : Nat → Int32) (t2_count : Int32) (t2_interfaceSet : Int32) (t2_supertypes : Nat → Int32) (r_t_count : Int32) (r_t_interfaceSet : Int32) (r_t_supertypes : Nat → Int32) (h : fX7_copyFrom t_count t_interfaceSet t_supertypes t2_count t2_interfaceSet t2_supertypes = some (r_t_count, r_t_interfaceSet, r_t_supertypes)) : IM l yX7_copyFrom wsX7_copyFrom rmX7_copyFrom D cI cM [.ref a_t, .ref a_t2] (W_t_t2 cI cM a_t a_t_supertypes a_t2 a_t2_supertypes t_count t_interfaceSet t_supertypes t2_count t2_interfaceSet t2_supertypes) (W_t_t2 cI cM a_t a_t_supertypes a_t2 a_t2_supertypes r_t_count r_t_interfaceSet r_t_supertypes t2_count t2_interfaceSet t2_supertypes) none := by
  refine IM.of (cc := cX7_copyFrom) (maxL := 2) (ret := none) (by decide) rfl (Nat.le_of_ble_eq_true rfl) ?_
  intro p e s m below meth c ls hx hb hr hml hown hts hlk hKK hP hD hS hl
  have hown : s.vm.findClass RX7 = some m.cls := hown
  have hl : lv_has ls 2 [(0, .ref a_t), (1, .ref a_t2)] := hl
  generalize hav : ([.ref a_t, .ref a_t2] : List Value) = av at hts ⊢
  generalize hw1 : W_t_t2 cI cM a_t a_t_supertypes a_t2 a_t2_supertypes r_t_count r_t_interfaceSet r_t_supertypes t2_count t2_interfaceSet t2_supertypes = w1
  generalize hw0 : W_t_t2 cI cM a_t a_t_supertypes a_t2 a_t2_supertypes t_count t_interfaceSet t_supertypes t2_count t2_interfaceSet t2_supertypes = w0 at hD hS ⊢
  have hP : va_P D vwCl (W_t_t2 cI cM a_t a_t_supertypes a_t2 a_t2_supertypes t_count t_interfaceSet t_supertypes t2_count t2_interfaceSet t2_supertypes) s.heap := hP
  have hD : va_D (fun q => q ∈ w0.map (·.1)) (W_t_t2 cI cM a_t a_t_supertypes a_t2 a_t2_supertypes t_count t_interfaceSet t_supertypes t2_count t2_interfaceSet t2_supertypes) := by rw [hw0]; exact hD
  have SS : CallFix p m c cX7_copyFrom 2 s av.toArray wsX7_copyFrom RX7 := ⟨hx, hb, hml, hown, hts⟩
  have hinX7 : ∀ w ∈ u_ws RX7 TX7 3, w ∈ wsX7_copyFrom := by decide +kernel
  have lk9 := hts (.fieldLink RX7 9 "SignatureChanger$Types" "supertypes" "[I") (List.mem_of_getElem? (i := 3) rfl)
  have lk15 := hts (.fieldLink RX7 15 "SignatureChanger$Types" "count" "I") (List.mem_of_getElem? (i := 1) rfl)
  have lk23 := hts (.fieldLink RX7 23 "SignatureChanger$Types" "interfaceSet" "I") (List.mem_of_getElem? (i := 2) rfl)
  have cw37 : va_CN rmX7_copyFrom s av.toArray RX7 37 yX8_copyRow RX8 cX8_copyRow 2 none wsX8_copyRow rmX8_copyRow 0 0 2 ∧ (Cond.static yX8_copyRow).before av.toArray s = true ∧ True := ⟨va_cnB 2 hts gX7_copyFrom_X8_copyRow_n37 rfl rfl rfl (hKK.2.at 11 rfl) (hts (.initialized RX8) (List.mem_of_getElem? (i := 5) rfl)) (by decide +kernel) ⟨Nat.le_of_ble_eq_true rfl, Nat.le_of_ble_eq_true rfl⟩, hts (.static yX8_copyRow) (List.mem_of_getElem? (i := 4) rfl), trivial⟩
  unfold fX7_copyFrom at h
  refine lv_aload_n hx hb dX7_copyFrom_0 rfl (lv_at hl 0 rfl) ?_
  refine lv_aload_n hx hb dX7_copyFrom_1 rfl (lv_at hl 1 rfl) ?_
  refine va_get (D := D) (ci := 7) (v := .int t2_count) (C := RX7) (T := TX7) (N := 3) hx hb hts hinX7 hown hKK.1 hP 2 rfl rfl 0 (by decide) lk15 (fun _ h9 => h9) rfl dX7_copyFrom_2 ?_
  refine va_put (D := D) (ci := 7) (v := .int t2_count) (ty := .int) (C := RX7) (T := TX7) (N := 3) hx hb hts hinX7 tyX7 tyX7_ok nmX7 hown hKK.1 hP hD hS 0 rfl rfl 0 (by decide) lk15 (fun _ h9 => h9) rfl (by decide +kernel) rfl rfl (Nat.le_of_ble_eq_true rfl) dX7_copyFrom_5 (fun H locs hP hD hS => ?_)
  have hP : va_P D vwCl (W_t_t2 cI cM a_t a_t_supertypes a_t2 a_t2_supertypes t2_count t_interfaceSet t_supertypes t2_count t2_interfaceSet t2_supertypes) H := hP
  have hD : va_D _ (W_t_t2 cI cM a_t a_t_supertypes a_t2 a_t2_supertypes t2_count t_interfaceSet t_supertypes t2_count t2_interfaceSet t2_supertypes) := hD
  refine lv_aload_n hx hb dX7_copyFrom_8 rfl (lv_at hl 0 rfl) ?_
  refine lv_aload_n hx hb dX7_copyFrom_9 rfl (lv_at hl 1 rfl) ?_
  refine va_get (D := D) (ci := 7) (v := .int t2_interfaceSet) (C := RX7) (T := TX7) (N := 3) hx hb hts hinX7 hown hKK.1 hP 2 rfl rfl 1 (by decide) lk23 (fun _ h9 => h9) rfl dX7_copyFrom_10 ?_
  refine va_put (D := D) (ci := 7) (v := .int t2_interfaceSet) (ty := .int) (C := RX7) (T := TX7) (N := 3) hx hb hts hinX7 tyX7 tyX7_ok nmX7 hown hKK.1 hP hD hS 0 rfl rfl 1 (by decide) lk23 (fun _ h9 => h9) rfl (by decide +kernel) rfl rfl (Nat.le_of_ble_eq_true rfl) dX7_copyFrom_13 (fun H locs hP hD hS => ?_)
  have hP : va_P D vwCl (W_t_t2 cI cM a_t a_t_supertypes a_t2 a_t2_supertypes t2_count t2_interfaceSet t_supertypes t2_count t2_interfaceSet t2_supertypes) H := hP
  have hD : va_D _ (W_t_t2 cI cM a_t a_t_supertypes a_t2 a_t2_supertypes t2_count t2_interfaceSet t_supertypes t2_count t2_interfaceSet t2_supertypes) := hD
  refine lv_aload_n hx hb dX7_copyFrom_16 rfl (lv_at hl 1 rfl) ?_
  refine va_get (D := D) (ci := 7) (v := .ref a_t2_supertypes) (C := RX7) (T := TX7) (N := 3) hx hb hts hinX7 hown hKK.1 hP 2 rfl rfl 2 (by decide) lk9 (fun _ h9 => h9) rfl dX7_copyFrom_17 ?_
  refine lv_aload_n hx hb dX7_copyFrom_20 rfl (lv_at hl 0 rfl) ?_
  refine va_get (D := D) (ci := 7) (v := .ref a_t_supertypes) (C := RX7) (T := TX7) (N := 3) hx hb hts hinX7 hown hKK.1 hP 0 rfl rfl 2 (by decide) lk9 (fun _ h9 => h9) rfl dX7_copyFrom_21 ?_
  refine kSNI (As := [.ref a_t2_supertypes, .ref a_t_supertypes]) (rest := []) (st1 := []) SS hKK (qX8_copyRow l D cI cM a_t2_supertypes a_t_supertypes 8 (by decide) t2_supertypes t_supertypes) cw37 hP hD hS [3, 1] rfl rfl rfl rfl rfl hl.1 rfl (Nat.le_of_ble_eq_true rfl) dX7_copyFrom_24 ⟨Nat.zero_le _, Nat.zero_le _⟩ rfl (fun H locs hP hD hS => ?_)
  have hP : va_P D vwCl (W_t_t2 cI cM a_t a_t_supertypes a_t2 a_t2_supertypes t2_count t2_interfaceSet t2_supertypes t2_count t2_interfaceSet t2_supertypes) H := hP
  have hD : va_D _ (W_t_t2 cI cM a_t a_t_supertypes a_t2 a_t2_supertypes t2_count t2_interfaceSet t2_supertypes t2_count t2_interfaceSet t2_supertypes) := hD
  simp only [Option.some.injEq, Prod.mk.injEq] at h
  obtain ⟨e0, e1, e2⟩ := h
  exact kRetV hx hb hr hlk (by rw [← hw1, ← e0, ← e1, ← e2]; exact hP) hS dX7_copyFrom_27
set_option maxHeartbeats 8000000 in
set_option maxRecDepth 100000 in
theorem qX5_copyFrom (l : Launch) (D : va_G) (cI cM : ClassId) (a_m a_m_type a_m_name a_m_arity a_m_keys a_m_defaults a_m2 a_m2_type a_m2_name a_m2_arity a_m2_keys a_m2_defaults : Nat) (m_count : Int32) (m_type : Nat → Int32) (m_name : Nat → Int32) (m_arity : Nat → Int32) (m_keys : Nat → Int32) (m_defaults : Nat → Int32) (m2_count : Int32) (m2_type : Nat → Int32) (m2_name : Nat → Int32) (m2_arity : Nat → Int32) (m2_keys : Nat → Int32) (m2_defaults : Nat → Int32) (r_m_count : Int32) (r_m_type : Nat → Int32) (r_m_name : Nat → Int32) (r_m_arity : Nat → Int32) (r_m_keys : Nat → Int32) (r_m_defaults : Nat → Int32) (h : fX5_copyFrom m_count m_type m_name m_arity m_keys m_defaults m2_count m2_type m2_name m2_arity m2_keys m2_defaults = some (r_m_count, r_m_type, r_m_name, r_m_arity, r_m_keys, r_m_defaults)) : IM l yX5_copyFrom wsX5_copyFrom rmX5_copyFrom D cI cM [.ref a_m, .ref a_m2] (W_m_m2 cI cM a_m a_m_type a_m_name a_m_arity a_m_keys a_m_defaults a_m2 a_m2_type a_m2_name a_m2_arity a_m2_keys a_m2_defaults m_count m_type m_name m_arity m_keys m_defaults m2_count m2_type m2_name m2_arity m2_keys m2_defaults) (W_m_m2 cI cM a_m a_m_type a_m_name a_m_arity a_m_keys a_m_defaults a_m2 a_m2_type a_m2_name a_m2_arity a_m2_keys a_m2_defaults r_m_count r_m_type r_m_name r_m_arity r_m_keys r_m_defaults m2_count m2_type m2_name m2_arity m2_keys m2_defaults) none := by
  refine IM.of (cc := cX5_copyFrom) (maxL := 2) (ret := none) (by decide) rfl (Nat.le_of_ble_eq_true rfl) ?_
  intro p e s m below meth c ls hx hb hr hml hown hts hlk hKK hP hD hS hl
  have hown : s.vm.findClass RX5 = some m.cls := hown
  have hl : lv_has ls 2 [(0, .ref a_m), (1, .ref a_m2)] := hl
  generalize hav : ([.ref a_m, .ref a_m2] : List Value) = av at hts ⊢
  generalize hw1 : W_m_m2 cI cM a_m a_m_type a_m_name a_m_arity a_m_keys a_m_defaults a_m2 a_m2_type a_m2_name a_m2_arity a_m2_keys a_m2_defaults r_m_count r_m_type r_m_name r_m_arity r_m_keys r_m_defaults m2_count m2_type m2_name m2_arity m2_keys m2_defaults = w1
  generalize hw0 : W_m_m2 cI cM a_m a_m_type a_m_name a_m_arity a_m_keys a_m_defaults a_m2 a_m2_type a_m2_name a_m2_arity a_m2_keys a_m2_defaults m_count m_type m_name m_arity m_keys m_defaults m2_count m2_type m2_name m2_arity m2_keys m2_defaults = w0 at hD hS ⊢
  have hP : va_P D vwCl (W_m_m2 cI cM a_m a_m_type a_m_name a_m_arity a_m_keys a_m_defaults a_m2 a_m2_type a_m2_name a_m2_arity a_m2_keys a_m2_defaults m_count m_type m_name m_arity m_keys m_defaults m2_count m2_type m2_name m2_arity m2_keys m2_defaults) s.heap := hP
  have hD : va_D (fun q => q ∈ w0.map (·.1)) (W_m_m2 cI cM a_m a_m_type a_m_name a_m_arity a_m_keys a_m_defaults a_m2 a_m2_type a_m2_name a_m2_arity a_m2_keys a_m2_defaults m_count m_type m_name m_arity m_keys m_defaults m2_count m2_type m2_name m2_arity m2_keys m2_defaults) := by rw [hw0]; exact hD
  have SS : CallFix p m c cX5_copyFrom 2 s av.toArray wsX5_copyFrom RX5 := ⟨hx, hb, hml, hown, hts⟩
  have hinX5 : ∀ w ∈ u_ws RX5 TX5 6, w ∈ wsX5_copyFrom := by decide +kernel
  have lk9 := hts (.fieldLink RX5 9 "SignatureChanger$Methods" "type" "[I") (List.mem_of_getElem? (i := 2) rfl)
  have lk15 := hts (.fieldLink RX5 15 "SignatureChanger$Methods" "name" "[I") (List.mem_of_getElem? (i := 3) rfl)
  have lk18 := hts (.fieldLink RX5 18 "SignatureChanger$Methods" "arity" "[I") (List.mem_of_getElem? (i := 4) rfl)
  have lk21 := hts (.fieldLink RX5 21 "SignatureChanger$Methods" "keys" "[I") (List.mem_of_getElem? (i := 5) rfl)
  have lk24 := hts (.fieldLink RX5 24 "SignatureChanger$Methods" "defaults" "[I") (List.mem_of_getElem? (i := 6) rfl)
  have lk27 := hts (.fieldLink RX5 27 "SignatureChanger$Methods" "count" "I") (List.mem_of_getElem? (i := 1) rfl)
  have cw72 : va_CN rmX5_copyFrom s av.toArray RX5 72 yX8_copyRow RX8 cX8_copyRow 2 none wsX8_copyRow rmX8_copyRow 0 0 2 ∧ (Cond.static yX8_copyRow).before av.toArray s = true ∧ True := ⟨va_cnB 2 hts gX5_copyFrom_X8_copyRow_n72 rfl rfl rfl (hKK.2.at 12 rfl) (hts (.initialized RX8) (List.mem_of_getElem? (i := 8) rfl)) (by decide +kernel) ⟨Nat.le_of_ble_eq_true rfl, Nat.le_of_ble_eq_true rfl⟩, hts (.static yX8_copyRow) (List.mem_of_getElem? (i := 7) rfl), trivial⟩
  unfold fX5_copyFrom at h
  refine lv_aload_n hx hb dX5_copyFrom_0 rfl (lv_at hl 0 rfl) ?_
  refine lv_aload_n hx hb dX5_copyFrom_1 rfl (lv_at hl 1 rfl) ?_
  refine va_get (D := D) (ci := 5) (v := .int m2_count) (C := RX5) (T := TX5) (N := 6) hx hb hts hinX5 hown hKK.1 hP 6 rfl rfl 0 (by decide) lk27 (fun _ h9 => h9) rfl dX5_copyFrom_2 ?_
  refine va_put (D := D) (ci := 5) (v := .int m2_count) (ty := .int) (C := RX5) (T := TX5) (N := 6) hx hb hts hinX5 tyX5 tyX5_ok nmX5 hown hKK.1 hP hD hS 0 rfl rfl 0 (by decide) lk27 (fun _ h9 => h9) rfl (by decide +kernel) rfl rfl (Nat.le_of_ble_eq_true rfl) dX5_copyFrom_5 (fun H locs hP hD hS => ?_)
  have hP : va_P D vwCl (W_m_m2 cI cM a_m a_m_type a_m_name a_m_arity a_m_keys a_m_defaults a_m2 a_m2_type a_m2_name a_m2_arity a_m2_keys a_m2_defaults m2_count m_type m_name m_arity m_keys m_defaults m2_count m2_type m2_name m2_arity m2_keys m2_defaults) H := hP
  have hD : va_D _ (W_m_m2 cI cM a_m a_m_type a_m_name a_m_arity a_m_keys a_m_defaults a_m2 a_m2_type a_m2_name a_m2_arity a_m2_keys a_m2_defaults m2_count m_type m_name m_arity m_keys m_defaults m2_count m2_type m2_name m2_arity m2_keys m2_defaults) := hD
  refine lv_aload_n hx hb dX5_copyFrom_8 rfl (lv_at hl 1 rfl) ?_
  refine va_get (D := D) (ci := 5) (v := .ref a_m2_type) (C := RX5) (T := TX5) (N := 6) hx hb hts hinX5 hown hKK.1 hP 6 rfl rfl 1 (by decide) lk9 (fun _ h9 => h9) rfl dX5_copyFrom_9 ?_
  refine lv_aload_n hx hb dX5_copyFrom_12 rfl (lv_at hl 0 rfl) ?_
  refine va_get (D := D) (ci := 5) (v := .ref a_m_type) (C := RX5) (T := TX5) (N := 6) hx hb hts hinX5 hown hKK.1 hP 0 rfl rfl 1 (by decide) lk9 (fun _ h9 => h9) rfl dX5_copyFrom_13 ?_
  refine kSNI (As := [.ref a_m2_type, .ref a_m_type]) (rest := []) (st1 := []) SS hKK (qX8_copyRow l D cI cM a_m2_type a_m_type 16 (by decide) m2_type m_type) cw72 hP hD hS [7, 1] rfl rfl rfl rfl rfl hl.1 rfl (Nat.le_of_ble_eq_true rfl) dX5_copyFrom_16 ⟨Nat.zero_le _, Nat.zero_le _⟩ rfl (fun H locs hP hD hS => ?_)
  have hP : va_P D vwCl (W_m_m2 cI cM a_m a_m_type a_m_name a_m_arity a_m_keys a_m_defaults a_m2 a_m2_type a_m2_name a_m2_arity a_m2_keys a_m2_defaults m2_count m2_type m_name m_arity m_keys m_defaults m2_count m2_type m2_name m2_arity m2_keys m2_defaults) H := hP
  have hD : va_D _ (W_m_m2 cI cM a_m a_m_type a_m_name a_m_arity a_m_keys a_m_defaults a_m2 a_m2_type a_m2_name a_m2_arity a_m2_keys a_m2_defaults m2_count m2_type m_name m_arity m_keys m_defaults m2_count m2_type m2_name m2_arity m2_keys m2_defaults) := hD
  refine lv_aload_n hx hb dX5_copyFrom_19 rfl (lv_at hl 1 rfl) ?_
  refine va_get (D := D) (ci := 5) (v := .ref a_m2_name) (C := RX5) (T := TX5) (N := 6) hx hb hts hinX5 hown hKK.1 hP 6 rfl rfl 2 (by decide) lk15 (fun _ h9 => h9) rfl dX5_copyFrom_20 ?_
  refine lv_aload_n hx hb dX5_copyFrom_23 rfl (lv_at hl 0 rfl) ?_
  refine va_get (D := D) (ci := 5) (v := .ref a_m_name) (C := RX5) (T := TX5) (N := 6) hx hb hts hinX5 hown hKK.1 hP 0 rfl rfl 2 (by decide) lk15 (fun _ h9 => h9) rfl dX5_copyFrom_24 ?_
  refine kSNI (As := [.ref a_m2_name, .ref a_m_name]) (rest := []) (st1 := []) SS hKK (qX8_copyRow l D cI cM a_m2_name a_m_name 16 (by decide) m2_name m_name) cw72 hP hD hS [8, 2] rfl rfl rfl rfl rfl hl.1 rfl (Nat.le_of_ble_eq_true rfl) dX5_copyFrom_27 ⟨Nat.zero_le _, Nat.zero_le _⟩ rfl (fun H locs hP hD hS => ?_)
  have hP : va_P D vwCl (W_m_m2 cI cM a_m a_m_type a_m_name a_m_arity a_m_keys a_m_defaults a_m2 a_m2_type a_m2_name a_m2_arity a_m2_keys a_m2_defaults m2_count m2_type m2_name m_arity m_keys m_defaults m2_count m2_type m2_name m2_arity m2_keys m2_defaults) H := hP
  have hD : va_D _ (W_m_m2 cI cM a_m a_m_type a_m_name a_m_arity a_m_keys a_m_defaults a_m2 a_m2_type a_m2_name a_m2_arity a_m2_keys a_m2_defaults m2_count m2_type m2_name m_arity m_keys m_defaults m2_count m2_type m2_name m2_arity m2_keys m2_defaults) := hD
  refine lv_aload_n hx hb dX5_copyFrom_30 rfl (lv_at hl 1 rfl) ?_
  refine va_get (D := D) (ci := 5) (v := .ref a_m2_arity) (C := RX5) (T := TX5) (N := 6) hx hb hts hinX5 hown hKK.1 hP 6 rfl rfl 3 (by decide) lk18 (fun _ h9 => h9) rfl dX5_copyFrom_31 ?_
  refine lv_aload_n hx hb dX5_copyFrom_34 rfl (lv_at hl 0 rfl) ?_
  refine va_get (D := D) (ci := 5) (v := .ref a_m_arity) (C := RX5) (T := TX5) (N := 6) hx hb hts hinX5 hown hKK.1 hP 0 rfl rfl 3 (by decide) lk18 (fun _ h9 => h9) rfl dX5_copyFrom_35 ?_
  refine kSNI (As := [.ref a_m2_arity, .ref a_m_arity]) (rest := []) (st1 := []) SS hKK (qX8_copyRow l D cI cM a_m2_arity a_m_arity 16 (by decide) m2_arity m_arity) cw72 hP hD hS [9, 3] rfl rfl rfl rfl rfl hl.1 rfl (Nat.le_of_ble_eq_true rfl) dX5_copyFrom_38 ⟨Nat.zero_le _, Nat.zero_le _⟩ rfl (fun H locs hP hD hS => ?_)
  have hP : va_P D vwCl (W_m_m2 cI cM a_m a_m_type a_m_name a_m_arity a_m_keys a_m_defaults a_m2 a_m2_type a_m2_name a_m2_arity a_m2_keys a_m2_defaults m2_count m2_type m2_name m2_arity m_keys m_defaults m2_count m2_type m2_name m2_arity m2_keys m2_defaults) H := hP
  have hD : va_D _ (W_m_m2 cI cM a_m a_m_type a_m_name a_m_arity a_m_keys a_m_defaults a_m2 a_m2_type a_m2_name a_m2_arity a_m2_keys a_m2_defaults m2_count m2_type m2_name m2_arity m_keys m_defaults m2_count m2_type m2_name m2_arity m2_keys m2_defaults) := hD
  refine lv_aload_n hx hb dX5_copyFrom_41 rfl (lv_at hl 1 rfl) ?_
  refine va_get (D := D) (ci := 5) (v := .ref a_m2_keys) (C := RX5) (T := TX5) (N := 6) hx hb hts hinX5 hown hKK.1 hP 6 rfl rfl 4 (by decide) lk21 (fun _ h9 => h9) rfl dX5_copyFrom_42 ?_
  refine lv_aload_n hx hb dX5_copyFrom_45 rfl (lv_at hl 0 rfl) ?_
  refine va_get (D := D) (ci := 5) (v := .ref a_m_keys) (C := RX5) (T := TX5) (N := 6) hx hb hts hinX5 hown hKK.1 hP 0 rfl rfl 4 (by decide) lk21 (fun _ h9 => h9) rfl dX5_copyFrom_46 ?_
  refine kSNI (As := [.ref a_m2_keys, .ref a_m_keys]) (rest := []) (st1 := []) SS hKK (qX8_copyRow l D cI cM a_m2_keys a_m_keys 80 (by decide) m2_keys m_keys) cw72 hP hD hS [10, 4] rfl rfl rfl rfl rfl hl.1 rfl (Nat.le_of_ble_eq_true rfl) dX5_copyFrom_49 ⟨Nat.zero_le _, Nat.zero_le _⟩ rfl (fun H locs hP hD hS => ?_)
  have hP : va_P D vwCl (W_m_m2 cI cM a_m a_m_type a_m_name a_m_arity a_m_keys a_m_defaults a_m2 a_m2_type a_m2_name a_m2_arity a_m2_keys a_m2_defaults m2_count m2_type m2_name m2_arity m2_keys m_defaults m2_count m2_type m2_name m2_arity m2_keys m2_defaults) H := hP
  have hD : va_D _ (W_m_m2 cI cM a_m a_m_type a_m_name a_m_arity a_m_keys a_m_defaults a_m2 a_m2_type a_m2_name a_m2_arity a_m2_keys a_m2_defaults m2_count m2_type m2_name m2_arity m2_keys m_defaults m2_count m2_type m2_name m2_arity m2_keys m2_defaults) := hD
  refine lv_aload_n hx hb dX5_copyFrom_52 rfl (lv_at hl 1 rfl) ?_
  refine va_get (D := D) (ci := 5) (v := .ref a_m2_defaults) (C := RX5) (T := TX5) (N := 6) hx hb hts hinX5 hown hKK.1 hP 6 rfl rfl 5 (by decide) lk24 (fun _ h9 => h9) rfl dX5_copyFrom_53 ?_
  refine lv_aload_n hx hb dX5_copyFrom_56 rfl (lv_at hl 0 rfl) ?_
  refine va_get (D := D) (ci := 5) (v := .ref a_m_defaults) (C := RX5) (T := TX5) (N := 6) hx hb hts hinX5 hown hKK.1 hP 0 rfl rfl 5 (by decide) lk24 (fun _ h9 => h9) rfl dX5_copyFrom_57 ?_
  refine kSNI (As := [.ref a_m2_defaults, .ref a_m_defaults]) (rest := []) (st1 := []) SS hKK (qX8_copyRow l D cI cM a_m2_defaults a_m_defaults 80 (by decide) m2_defaults m_defaults) cw72 hP hD hS [11, 5] rfl rfl rfl rfl rfl hl.1 rfl (Nat.le_of_ble_eq_true rfl) dX5_copyFrom_60 ⟨Nat.zero_le _, Nat.zero_le _⟩ rfl (fun H locs hP hD hS => ?_)
  have hP : va_P D vwCl (W_m_m2 cI cM a_m a_m_type a_m_name a_m_arity a_m_keys a_m_defaults a_m2 a_m2_type a_m2_name a_m2_arity a_m2_keys a_m2_defaults m2_count m2_type m2_name m2_arity m2_keys m2_defaults m2_count m2_type m2_name m2_arity m2_keys m2_defaults) H := hP
  have hD : va_D _ (W_m_m2 cI cM a_m a_m_type a_m_name a_m_arity a_m_keys a_m_defaults a_m2 a_m2_type a_m2_name a_m2_arity a_m2_keys a_m2_defaults m2_count m2_type m2_name m2_arity m2_keys m2_defaults m2_count m2_type m2_name m2_arity m2_keys m2_defaults) := hD
  simp only [Option.some.injEq, Prod.mk.injEq] at h
  obtain ⟨e0, e1, e2, e3, e4, e5⟩ := h
  exact kRetV hx hb hr hlk (by rw [← hw1, ← e0, ← e1, ← e2, ← e3, ← e4, ← e5]; exact hP) hS dX5_copyFrom_63
