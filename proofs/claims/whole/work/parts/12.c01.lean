/-! generated: X0.exists X0.hasArgument X8.contains X0.isFrozen X0.keyOf X0.kindOf X0.valueOf X0.temporaryKindOf X8.bit X0.withTargetIn X5.keyOf X0.fitsTarget X0.putArgument X0.add X0.hoist X0.rearrange X0.rewrite X8.copyRow X0.copyFrom X5.keySetOf X1.start X1.close X5.defaultOf X1.append X1.keep X1.freeKey X1.insert X1.keepsWholeList X2.readOrTick X2.valueOf -/
set_option maxHeartbeats 8000000 in
set_option maxRecDepth 100000 in
theorem qX0_exists (l : Launch) (D : va_G) (cI cM : ClassId) (a_k a_k_staticType a_k_dynamicType a_k_target a_k_argumentCounts a_k_temporaryCounts a_k_keys a_k_kinds a_k_values a_k_temporaryKinds a_k_newKinds a_k_newValues : Nat) (k_count : Int32) (k_frozenSet : Int32) (k_staticType : Nat → Int32) (k_dynamicType : Nat → Int32) (k_target : Nat → Int32) (k_argumentCounts : Nat → Int32) (k_temporaryCounts : Nat → Int32) (k_keys : Nat → Int32) (k_kinds : Nat → Int32) (k_values : Nat → Int32) (k_temporaryKinds : Nat → Int32) (k_newKinds : Nat → Int32) (k_newValues : Nat → Int32) (x1 : Int32) (r : Int32) (h : fX0_exists k_count x1 = some r) : PM l yX0_exists wsX0_exists rmX0_exists D cI cM [.ref a_k, .int x1] (W_k cI cM a_k a_k_staticType a_k_dynamicType a_k_target a_k_argumentCounts a_k_temporaryCounts a_k_keys a_k_kinds a_k_values a_k_temporaryKinds a_k_newKinds a_k_newValues k_count k_frozenSet k_staticType k_dynamicType k_target k_argumentCounts k_temporaryCounts k_keys k_kinds k_values k_temporaryKinds k_newKinds k_newValues) r := by
  refine PM.of (cc := cX0_exists) (maxL := 2) (ret := (some .boolean)) (by decide) rfl (Nat.le_of_ble_eq_true rfl) ?_
  intro p e s m below meth c ls hx hb hr hml hown hts hlk hP hKK hl
  have hown : s.vm.findClass RX0 = some m.cls := hown
  have hl : lv_has ls 2 [(0, .ref a_k), (1, .int x1)] := hl
  generalize hav : ([.ref a_k, .int x1] : List Value) = av at hts ⊢
  have SS : CallFix p m c cX0_exists 2 s av.toArray wsX0_exists RX0 := ⟨hx, hb, hml, hown, hts⟩
  have hinX0 : ∀ w ∈ u_ws RX0 TX0 13, w ∈ wsX0_exists := by decide +kernel
  have lk45 := hts (.fieldLink RX0 45 "SignatureChanger$Calls" "count" "I") (List.mem_of_getElem? (i := 1) rfl)
  unfold fX0_exists at h
  refine lv_iload_n hx hb dX0_exists_0 rfl (lv_at hl 1 rfl) ?_
  refine lv_if_lt (tgt := 16) hx hb dX0_exists_1 (by decide) (fun c1 => ?_) (fun c1 => ?_)
  · have h := ifp h c1
    refine lv_iconst (v := 0) hx hb dX0_exists_16 (by decide) ?_
    exact kRetZ hx hb hr hlk rfl (Option.some.inj h) dX0_exists_17
  · have h := ifn h c1
    refine lv_iload_n hx hb dX0_exists_4 rfl (lv_at hl 1 rfl) ?_
    refine lv_aload_n hx hb dX0_exists_5 rfl (lv_at hl 0 rfl) ?_
    refine va_get (D := D) (ci := 0) (v := .int k_count) (C := RX0) (T := TX0) (N := 13) hx hb hts hinX0 hown hKK.1 hP 0 rfl rfl 0 (by decide) lk45 (fun _ h9 => h9) rfl dX0_exists_6 ?_
    refine lv_icmp_ge (tgt := 16) hx hb dX0_exists_9 (by decide) (fun c2 => ?_) (fun c2 => ?_)
    · have h := ifp h c2
      refine lv_iconst (v := 0) hx hb dX0_exists_16 (by decide) ?_
      exact kRetZ hx hb hr hlk rfl (Option.some.inj h) dX0_exists_17
    · have h := ifn h c2
      refine lv_iconst (v := 1) hx hb dX0_exists_12 (by decide) ?_
      refine lv_goto (tgt := 17) hx hb dX0_exists_13 (by decide) ?_
      exact kRetZ hx hb hr hlk rfl (Option.some.inj h) dX0_exists_17
set_option maxHeartbeats 8000000 in
set_option maxRecDepth 100000 in
theorem qX0_hasArgument (l : Launch) (D : va_G) (cI cM : ClassId) (a_k a_k_staticType a_k_dynamicType a_k_target a_k_argumentCounts a_k_temporaryCounts a_k_keys a_k_kinds a_k_values a_k_temporaryKinds a_k_newKinds a_k_newValues : Nat) (k_count : Int32) (k_frozenSet : Int32) (k_staticType : Nat → Int32) (k_dynamicType : Nat → Int32) (k_target : Nat → Int32) (k_argumentCounts : Nat → Int32) (k_temporaryCounts : Nat → Int32) (k_keys : Nat → Int32) (k_kinds : Nat → Int32) (k_values : Nat → Int32) (k_temporaryKinds : Nat → Int32) (k_newKinds : Nat → Int32) (k_newValues : Nat → Int32) (x1 : Int32) (x2 : Int32) (r : Int32) (h : fX0_hasArgument k_count k_argumentCounts x1 x2 = some r) : PM l yX0_hasArgument wsX0_hasArgument rmX0_hasArgument D cI cM [.ref a_k, .int x1, .int x2] (W_k cI cM a_k a_k_staticType a_k_dynamicType a_k_target a_k_argumentCounts a_k_temporaryCounts a_k_keys a_k_kinds a_k_values a_k_temporaryKinds a_k_newKinds a_k_newValues k_count k_frozenSet k_staticType k_dynamicType k_target k_argumentCounts k_temporaryCounts k_keys k_kinds k_values k_temporaryKinds k_newKinds k_newValues) r := by
  refine PM.of (cc := cX0_hasArgument) (maxL := 3) (ret := (some .boolean)) (by decide) rfl (Nat.le_of_ble_eq_true rfl) ?_
  intro p e s m below meth c ls hx hb hr hml hown hts hlk hP hKK hl
  have hown : s.vm.findClass RX0 = some m.cls := hown
  have hl : lv_has ls 3 [(0, .ref a_k), (1, .int x1), (2, .int x2)] := hl
  generalize hav : ([.ref a_k, .int x1, .int x2] : List Value) = av at hts ⊢
  have SS : CallFix p m c cX0_hasArgument 3 s av.toArray wsX0_hasArgument RX0 := ⟨hx, hb, hml, hown, hts⟩
  have hinX0 : ∀ w ∈ u_ws RX0 TX0 13, w ∈ wsX0_hasArgument := by decide +kernel
  have lk21 := hts (.fieldLink RX0 21 "SignatureChanger$Calls" "argumentCounts" "[I") (List.mem_of_getElem? (i := 1) rfl)
  have cw49 : CallW rmX0_hasArgument s av.toArray RX0 RX0 49 yX0_exists cX0_exists 2 (some .boolean) wsX0_exists rmX0_exists 0 0 1 := cwV 1 hts gX0_hasArgument_X0_exists rfl rfl rfl (by decide +kernel) ⟨Nat.le_of_ble_eq_true rfl, Nat.le_of_ble_eq_true rfl⟩
  unfold fX0_hasArgument at h
  refine lv_aload_n hx hb dX0_hasArgument_0 rfl (lv_at hl 0 rfl) ?_
  refine lv_iload_n hx hb dX0_hasArgument_1 rfl (lv_at hl 1 rfl) ?_
  obtain ⟨v1, ev1, h⟩ := bn_some h
  have hs2 : va_P D vwCl (W_k cI cM a_k a_k_staticType a_k_dynamicType a_k_target a_k_argumentCounts a_k_temporaryCounts a_k_keys a_k_kinds a_k_values a_k_temporaryKinds a_k_newKinds a_k_newValues k_count k_frozenSet k_staticType k_dynamicType k_target k_argumentCounts k_temporaryCounts k_keys k_kinds k_values k_temporaryKinds k_newKinds k_newValues) _ := hP.sub (ws' := W_k cI cM a_k a_k_staticType a_k_dynamicType a_k_target a_k_argumentCounts a_k_temporaryCounts a_k_keys a_k_kinds a_k_values a_k_temporaryKinds a_k_newKinds a_k_newValues k_count k_frozenSet k_staticType k_dynamicType k_target k_argumentCounts k_temporaryCounts k_keys k_kinds k_values k_temporaryKinds k_newKinds k_newValues) [0, 1, 2, 3, 4, 5, 6, 7, 8, 9, 10, 11] rfl
  refine kV (As := [.int x1]) (rest := []) SS hKK (qX0_exists l D cI cM a_k a_k_staticType a_k_dynamicType a_k_target a_k_argumentCounts a_k_temporaryCounts a_k_keys a_k_kinds a_k_values a_k_temporaryKinds a_k_newKinds a_k_newValues k_count k_frozenSet k_staticType k_dynamicType k_target k_argumentCounts k_temporaryCounts k_keys k_kinds k_values k_temporaryKinds k_newKinds k_newValues x1 v1 ev1) cw49 hs2 0 0 rfl rfl rfl hl.1 rfl (Nat.le_of_ble_eq_true rfl) dX0_hasArgument_2 ⟨Nat.zero_le _, Nat.zero_le _⟩ ?_
  refine lv_if_eq (tgt := 26) hx hb dX0_hasArgument_5 (by decide) (fun c3 => ?_) (fun c3 => ?_)
  · have h := ifp h c3
    refine lv_iconst (v := 0) hx hb dX0_hasArgument_26 (by decide) ?_
    exact kRetZ hx hb hr hlk rfl (Option.some.inj h) dX0_hasArgument_27
  · have h := ifn h c3
    refine lv_iload_n hx hb dX0_hasArgument_8 rfl (lv_at hl 2 rfl) ?_
    refine lv_if_lt (tgt := 26) hx hb dX0_hasArgument_9 (by decide) (fun c4 => ?_) (fun c4 => ?_)
    · have h := ifp h c4
      refine lv_iconst (v := 0) hx hb dX0_hasArgument_26 (by decide) ?_
      exact kRetZ hx hb hr hlk rfl (Option.some.inj h) dX0_hasArgument_27
    · have h := ifn h c4
      refine lv_iload_n hx hb dX0_hasArgument_12 rfl (lv_at hl 2 rfl) ?_
      refine lv_aload_n hx hb dX0_hasArgument_13 rfl (lv_at hl 0 rfl) ?_
      refine va_get (D := D) (ci := 0) (v := .ref a_k_argumentCounts) (C := RX0) (T := TX0) (N := 13) hx hb hts hinX0 hown hKK.1 hP 0 rfl rfl 5 (by decide) lk21 (fun _ h9 => h9) rfl dX0_hasArgument_14 ?_
      refine lv_iload_n hx hb dX0_hasArgument_17 rfl (lv_at hl 1 rfl) ?_
      obtain ⟨v5, iv5, ev5, h⟩ := rd_some h
      refine kAld hx hb hKK hP 4 rfl iv5 ev5 dX0_hasArgument_18 ?_
      refine lv_icmp_ge (tgt := 26) hx hb dX0_hasArgument_19 (by decide) (fun c6 => ?_) (fun c6 => ?_)
      · have h := ifp h c6
        refine lv_iconst (v := 0) hx hb dX0_hasArgument_26 (by decide) ?_
        exact kRetZ hx hb hr hlk rfl (Option.some.inj h) dX0_hasArgument_27
      · have h := ifn h c6
        refine lv_iconst (v := 1) hx hb dX0_hasArgument_22 (by decide) ?_
        refine lv_goto (tgt := 27) hx hb dX0_hasArgument_23 (by decide) ?_
        exact kRetZ hx hb hr hlk rfl (Option.some.inj h) dX0_hasArgument_27
set_option maxHeartbeats 8000000 in
set_option maxRecDepth 100000 in
theorem qX8_contains (l : Launch) (D : va_G) (cI cM : ClassId) (x0 : Int32) (x1 : Int32) (r : Int32) (h : fX8_contains x0 x1 = some r) : PM l yX8_contains wsX8_contains rmX8_contains D cI cM [.int x0, .int x1] ([]) r := by
  refine PM.of (cc := cX8_contains) (maxL := 2) (ret := (some .boolean)) (by decide) rfl (Nat.le_of_ble_eq_true rfl) ?_
  intro p e s m below meth c ls hx hb hr hml hown hts hlk hP hKK hl
  have hown : s.vm.findClass RX8 = some m.cls := hown
  have hl : lv_has ls 2 [(0, .int x0), (1, .int x1)] := hl
  generalize hav : ([.int x0, .int x1] : List Value) = av at hts ⊢
  have SS : CallFix p m c cX8_contains 2 s av.toArray wsX8_contains RX8 := ⟨hx, hb, hml, hown, hts⟩
  unfold fX8_contains at h
  refine lv_iload_n hx hb dX8_contains_0 rfl (lv_at hl 0 rfl) ?_
  refine lv_iconst (v := 1) hx hb dX8_contains_1 (by decide) ?_
  refine lv_iload_n hx hb dX8_contains_2 rfl (lv_at hl 1 rfl) ?_
  refine lv_ishl hx hb dX8_contains_3 ?_
  refine lv_iand hx hb dX8_contains_4 ?_
  refine lv_if_eq (tgt := 12) hx hb dX8_contains_5 (by decide) (fun c1 => ?_) (fun c1 => ?_)
  · have h := ifp h c1
    refine lv_iconst (v := 0) hx hb dX8_contains_12 (by decide) ?_
    exact kRetZ hx hb hr hlk rfl (Option.some.inj h) dX8_contains_13
  · have h := ifn h c1
    refine lv_iconst (v := 1) hx hb dX8_contains_8 (by decide) ?_
    refine lv_goto (tgt := 13) hx hb dX8_contains_9 (by decide) ?_
    exact kRetZ hx hb hr hlk rfl (Option.some.inj h) dX8_contains_13
set_option maxHeartbeats 8000000 in
set_option maxRecDepth 100000 in
theorem qX0_isFrozen (l : Launch) (D : va_G) (cI cM : ClassId) (a_k a_k_staticType a_k_dynamicType a_k_target a_k_argumentCounts a_k_temporaryCounts a_k_keys a_k_kinds a_k_values a_k_temporaryKinds a_k_newKinds a_k_newValues : Nat) (k_count : Int32) (k_frozenSet : Int32) (k_staticType : Nat → Int32) (k_dynamicType : Nat → Int32) (k_target : Nat → Int32) (k_argumentCounts : Nat → Int32) (k_temporaryCounts : Nat → Int32) (k_keys : Nat → Int32) (k_kinds : Nat → Int32) (k_values : Nat → Int32) (k_temporaryKinds : Nat → Int32) (k_newKinds : Nat → Int32) (k_newValues : Nat → Int32) (x1 : Int32) (r : Int32) (h : fX0_isFrozen k_frozenSet x1 = some r) : PM l yX0_isFrozen wsX0_isFrozen rmX0_isFrozen D cI cM [.ref a_k, .int x1] (W_k cI cM a_k a_k_staticType a_k_dynamicType a_k_target a_k_argumentCounts a_k_temporaryCounts a_k_keys a_k_kinds a_k_values a_k_temporaryKinds a_k_newKinds a_k_newValues k_count k_frozenSet k_staticType k_dynamicType k_target k_argumentCounts k_temporaryCounts k_keys k_kinds k_values k_temporaryKinds k_newKinds k_newValues) r := by
  refine PM.of (cc := cX0_isFrozen) (maxL := 2) (ret := (some .boolean)) (by decide) rfl (Nat.le_of_ble_eq_true rfl) ?_
  intro p e s m below meth c ls hx hb hr hml hown hts hlk hP hKK hl
  have hown : s.vm.findClass RX0 = some m.cls := hown
  have hl : lv_has ls 2 [(0, .ref a_k), (1, .int x1)] := hl
  generalize hav : ([.ref a_k, .int x1] : List Value) = av at hts ⊢
  have SS : CallFix p m c cX0_isFrozen 2 s av.toArray wsX0_isFrozen RX0 := ⟨hx, hb, hml, hown, hts⟩
  have hinX0 : ∀ w ∈ u_ws RX0 TX0 13, w ∈ wsX0_isFrozen := by decide +kernel
  have lk53 := hts (.fieldLink RX0 53 "SignatureChanger$Calls" "frozenSet" "I") (List.mem_of_getElem? (i := 1) rfl)
  have cw56 : va_CN rmX0_isFrozen s av.toArray RX0 56 yX8_contains RX8 cX8_contains 2 (some .boolean) wsX8_contains rmX8_contains 0 0 2 ∧ (Cond.static yX8_contains).before av.toArray s = true ∧ True := ⟨va_cnB 2 hts gX0_isFrozen_X8_contains_n56 rfl rfl rfl (hKK.2.at 15 rfl) (hts (.initialized RX8) (List.mem_of_getElem? (i := 3) rfl)) (by decide +kernel) ⟨Nat.le_of_ble_eq_true rfl, Nat.le_of_ble_eq_true rfl⟩, hts (.static yX8_contains) (List.mem_of_getElem? (i := 2) rfl), trivial⟩
  unfold fX0_isFrozen at h
  refine lv_aload_n hx hb dX0_isFrozen_0 rfl (lv_at hl 0 rfl) ?_
  refine va_get (D := D) (ci := 0) (v := .int k_frozenSet) (C := RX0) (T := TX0) (N := 13) hx hb hts hinX0 hown hKK.1 hP 0 rfl rfl 1 (by decide) lk53 (fun _ h9 => h9) rfl dX0_isFrozen_1 ?_
  refine lv_iload_n hx hb dX0_isFrozen_4 rfl (lv_at hl 1 rfl) ?_
  obtain ⟨v1, ev1, h⟩ := bn_some h
  refine kSN (As := [.int k_frozenSet, .int x1]) (rest := []) SS hKK (qX8_contains l D cI cM k_frozenSet x1 v1 ev1) cw56 va_P_nil rfl hl.1 rfl (Nat.le_of_ble_eq_true rfl) dX0_isFrozen_5 ⟨Nat.zero_le _, Nat.zero_le _⟩ ?_
  exact kRetZ hx hb hr hlk (rb_some h).2 (rb_some h).1 dX0_isFrozen_8
set_option maxHeartbeats 8000000 in
set_option maxRecDepth 100000 in
theorem qX0_keyOf (l : Launch) (D : va_G) (cI cM : ClassId) (a_k a_k_staticType a_k_dynamicType a_k_target a_k_argumentCounts a_k_temporaryCounts a_k_keys a_k_kinds a_k_values a_k_temporaryKinds a_k_newKinds a_k_newValues : Nat) (k_count : Int32) (k_frozenSet : Int32) (k_staticType : Nat → Int32) (k_dynamicType : Nat → Int32) (k_target : Nat → Int32) (k_argumentCounts : Nat → Int32) (k_temporaryCounts : Nat → Int32) (k_keys : Nat → Int32) (k_kinds : Nat → Int32) (k_values : Nat → Int32) (k_temporaryKinds : Nat → Int32) (k_newKinds : Nat → Int32) (k_newValues : Nat → Int32) (x1 : Int32) (x2 : Int32) (r : Int32) (h : fX0_keyOf k_keys x1 x2 = some r) : PM l yX0_keyOf wsX0_keyOf rmX0_keyOf D cI cM [.ref a_k, .int x1, .int x2] (W_k cI cM a_k a_k_staticType a_k_dynamicType a_k_target a_k_argumentCounts a_k_temporaryCounts a_k_keys a_k_kinds a_k_values a_k_temporaryKinds a_k_newKinds a_k_newValues k_count k_frozenSet k_staticType k_dynamicType k_target k_argumentCounts k_temporaryCounts k_keys k_kinds k_values k_temporaryKinds k_newKinds k_newValues) r := by
  refine PM.of (cc := cX0_keyOf) (maxL := 3) (ret := (some .int)) (by decide) rfl (Nat.le_of_ble_eq_true rfl) ?_
  intro p e s m below meth c ls hx hb hr hml hown hts hlk hP hKK hl
  have hown : s.vm.findClass RX0 = some m.cls := hown
  have hl : lv_has ls 3 [(0, .ref a_k), (1, .int x1), (2, .int x2)] := hl
  generalize hav : ([.ref a_k, .int x1, .int x2] : List Value) = av at hts ⊢
  have SS : CallFix p m c cX0_keyOf 3 s av.toArray wsX0_keyOf RX0 := ⟨hx, hb, hml, hown, hts⟩
  have hinX0 : ∀ w ∈ u_ws RX0 TX0 13, w ∈ wsX0_keyOf := by decide +kernel
  have lk27 := hts (.fieldLink RX0 27 "SignatureChanger$Calls" "keys" "[I") (List.mem_of_getElem? (i := 1) rfl)
  unfold fX0_keyOf at h
  refine lv_aload_n hx hb dX0_keyOf_0 rfl (lv_at hl 0 rfl) ?_
  refine va_get (D := D) (ci := 0) (v := .ref a_k_keys) (C := RX0) (T := TX0) (N := 13) hx hb hts hinX0 hown hKK.1 hP 0 rfl rfl 7 (by decide) lk27 (fun _ h9 => h9) rfl dX0_keyOf_1 ?_
  refine lv_iload_n hx hb dX0_keyOf_4 rfl (lv_at hl 1 rfl) ?_
  refine lv_iconst (v := 5) hx hb dX0_keyOf_5 (by decide) ?_
  refine lv_imul hx hb dX0_keyOf_6 ?_
  refine lv_iload_n hx hb dX0_keyOf_7 rfl (lv_at hl 2 rfl) ?_
  refine lv_iadd hx hb dX0_keyOf_8 ?_
  obtain ⟨v1, iv1, ev1, h⟩ := rd_some h
  refine kAld hx hb hKK hP 6 rfl iv1 ev1 dX0_keyOf_9 ?_
  exact kRet hx hb hr hlk (Option.some.inj h) dX0_keyOf_10
set_option maxHeartbeats 8000000 in
set_option maxRecDepth 100000 in
theorem qX0_kindOf (l : Launch) (D : va_G) (cI cM : ClassId) (a_k a_k_staticType a_k_dynamicType a_k_target a_k_argumentCounts a_k_temporaryCounts a_k_keys a_k_kinds a_k_values a_k_temporaryKinds a_k_newKinds a_k_newValues : Nat) (k_count : Int32) (k_frozenSet : Int32) (k_staticType : Nat → Int32) (k_dynamicType : Nat → Int32) (k_target : Nat → Int32) (k_argumentCounts : Nat → Int32) (k_temporaryCounts : Nat → Int32) (k_keys : Nat → Int32) (k_kinds : Nat → Int32) (k_values : Nat → Int32) (k_temporaryKinds : Nat → Int32) (k_newKinds : Nat → Int32) (k_newValues : Nat → Int32) (x1 : Int32) (x2 : Int32) (r : Int32) (h : fX0_kindOf k_kinds x1 x2 = some r) : PM l yX0_kindOf wsX0_kindOf rmX0_kindOf D cI cM [.ref a_k, .int x1, .int x2] (W_k cI cM a_k a_k_staticType a_k_dynamicType a_k_target a_k_argumentCounts a_k_temporaryCounts a_k_keys a_k_kinds a_k_values a_k_temporaryKinds a_k_newKinds a_k_newValues k_count k_frozenSet k_staticType k_dynamicType k_target k_argumentCounts k_temporaryCounts k_keys k_kinds k_values k_temporaryKinds k_newKinds k_newValues) r := by
  refine PM.of (cc := cX0_kindOf) (maxL := 3) (ret := (some .int)) (by decide) rfl (Nat.le_of_ble_eq_true rfl) ?_
  intro p e s m below meth c ls hx hb hr hml hown hts hlk hP hKK hl
  have hown : s.vm.findClass RX0 = some m.cls := hown
  have hl : lv_has ls 3 [(0, .ref a_k), (1, .int x1), (2, .int x2)] := hl
  generalize hav : ([.ref a_k, .int x1, .int x2] : List Value) = av at hts ⊢
  have SS : CallFix p m c cX0_kindOf 3 s av.toArray wsX0_kindOf RX0 := ⟨hx, hb, hml, hown, hts⟩
  have hinX0 : ∀ w ∈ u_ws RX0 TX0 13, w ∈ wsX0_kindOf := by decide +kernel
  have lk30 := hts (.fieldLink RX0 30 "SignatureChanger$Calls" "kinds" "[I") (List.mem_of_getElem? (i := 1) rfl)
  unfold fX0_kindOf at h
  refine lv_aload_n hx hb dX0_kindOf_0 rfl (lv_at hl 0 rfl) ?_
  refine va_get (D := D) (ci := 0) (v := .ref a_k_kinds) (C := RX0) (T := TX0) (N := 13) hx hb hts hinX0 hown hKK.1 hP 0 rfl rfl 8 (by decide) lk30 (fun _ h9 => h9) rfl dX0_kindOf_1 ?_
  refine lv_iload_n hx hb dX0_kindOf_4 rfl (lv_at hl 1 rfl) ?_
  refine lv_iconst (v := 5) hx hb dX0_kindOf_5 (by decide) ?_
  refine lv_imul hx hb dX0_kindOf_6 ?_
  refine lv_iload_n hx hb dX0_kindOf_7 rfl (lv_at hl 2 rfl) ?_
  refine lv_iadd hx hb dX0_kindOf_8 ?_
  obtain ⟨v1, iv1, ev1, h⟩ := rd_some h
  refine kAld hx hb hKK hP 7 rfl iv1 ev1 dX0_kindOf_9 ?_
  exact kRet hx hb hr hlk (Option.some.inj h) dX0_kindOf_10
set_option maxHeartbeats 8000000 in
set_option maxRecDepth 100000 in
theorem qX0_valueOf (l : Launch) (D : va_G) (cI cM : ClassId) (a_k a_k_staticType a_k_dynamicType a_k_target a_k_argumentCounts a_k_temporaryCounts a_k_keys a_k_kinds a_k_values a_k_temporaryKinds a_k_newKinds a_k_newValues : Nat) (k_count : Int32) (k_frozenSet : Int32) (k_staticType : Nat → Int32) (k_dynamicType : Nat → Int32) (k_target : Nat → Int32) (k_argumentCounts : Nat → Int32) (k_temporaryCounts : Nat → Int32) (k_keys : Nat → Int32) (k_kinds : Nat → Int32) (k_values : Nat → Int32) (k_temporaryKinds : Nat → Int32) (k_newKinds : Nat → Int32) (k_newValues : Nat → Int32) (x1 : Int32) (x2 : Int32) (r : Int32) (h : fX0_valueOf k_values x1 x2 = some r) : PM l yX0_valueOf wsX0_valueOf rmX0_valueOf D cI cM [.ref a_k, .int x1, .int x2] (W_k cI cM a_k a_k_staticType a_k_dynamicType a_k_target a_k_argumentCounts a_k_temporaryCounts a_k_keys a_k_kinds a_k_values a_k_temporaryKinds a_k_newKinds a_k_newValues k_count k_frozenSet k_staticType k_dynamicType k_target k_argumentCounts k_temporaryCounts k_keys k_kinds k_values k_temporaryKinds k_newKinds k_newValues) r := by
  refine PM.of (cc := cX0_valueOf) (maxL := 3) (ret := (some .int)) (by decide) rfl (Nat.le_of_ble_eq_true rfl) ?_
  intro p e s m below meth c ls hx hb hr hml hown hts hlk hP hKK hl
  have hown : s.vm.findClass RX0 = some m.cls := hown
  have hl : lv_has ls 3 [(0, .ref a_k), (1, .int x1), (2, .int x2)] := hl
  generalize hav : ([.ref a_k, .int x1, .int x2] : List Value) = av at hts ⊢
  have SS : CallFix p m c cX0_valueOf 3 s av.toArray wsX0_valueOf RX0 := ⟨hx, hb, hml, hown, hts⟩
  have hinX0 : ∀ w ∈ u_ws RX0 TX0 13, w ∈ wsX0_valueOf := by decide +kernel
  have lk33 := hts (.fieldLink RX0 33 "SignatureChanger$Calls" "values" "[I") (List.mem_of_getElem? (i := 1) rfl)
  unfold fX0_valueOf at h
  refine lv_aload_n hx hb dX0_valueOf_0 rfl (lv_at hl 0 rfl) ?_
  refine va_get (D := D) (ci := 0) (v := .ref a_k_values) (C := RX0) (T := TX0) (N := 13) hx hb hts hinX0 hown hKK.1 hP 0 rfl rfl 9 (by decide) lk33 (fun _ h9 => h9) rfl dX0_valueOf_1 ?_
  refine lv_iload_n hx hb dX0_valueOf_4 rfl (lv_at hl 1 rfl) ?_
  refine lv_iconst (v := 5) hx hb dX0_valueOf_5 (by decide) ?_
  refine lv_imul hx hb dX0_valueOf_6 ?_
  refine lv_iload_n hx hb dX0_valueOf_7 rfl (lv_at hl 2 rfl) ?_
  refine lv_iadd hx hb dX0_valueOf_8 ?_
  obtain ⟨v1, iv1, ev1, h⟩ := rd_some h
  refine kAld hx hb hKK hP 8 rfl iv1 ev1 dX0_valueOf_9 ?_
  exact kRet hx hb hr hlk (Option.some.inj h) dX0_valueOf_10
set_option maxHeartbeats 8000000 in
set_option maxRecDepth 100000 in
theorem qX0_temporaryKindOf (l : Launch) (D : va_G) (cI cM : ClassId) (a_k a_k_staticType a_k_dynamicType a_k_target a_k_argumentCounts a_k_temporaryCounts a_k_keys a_k_kinds a_k_values a_k_temporaryKinds a_k_newKinds a_k_newValues : Nat) (k_count : Int32) (k_frozenSet : Int32) (k_staticType : Nat → Int32) (k_dynamicType : Nat → Int32) (k_target : Nat → Int32) (k_argumentCounts : Nat → Int32) (k_temporaryCounts : Nat → Int32) (k_keys : Nat → Int32) (k_kinds : Nat → Int32) (k_values : Nat → Int32) (k_temporaryKinds : Nat → Int32) (k_newKinds : Nat → Int32) (k_newValues : Nat → Int32) (x1 : Int32) (x2 : Int32) (r : Int32) (h : fX0_temporaryKindOf k_temporaryKinds x1 x2 = some r) : PM l yX0_temporaryKindOf wsX0_temporaryKindOf rmX0_temporaryKindOf D cI cM [.ref a_k, .int x1, .int x2] (W_k cI cM a_k a_k_staticType a_k_dynamicType a_k_target a_k_argumentCounts a_k_temporaryCounts a_k_keys a_k_kinds a_k_values a_k_temporaryKinds a_k_newKinds a_k_newValues k_count k_frozenSet k_staticType k_dynamicType k_target k_argumentCounts k_temporaryCounts k_keys k_kinds k_values k_temporaryKinds k_newKinds k_newValues) r := by
  refine PM.of (cc := cX0_temporaryKindOf) (maxL := 3) (ret := (some .int)) (by decide) rfl (Nat.le_of_ble_eq_true rfl) ?_
  intro p e s m below meth c ls hx hb hr hml hown hts hlk hP hKK hl
  have hown : s.vm.findClass RX0 = some m.cls := hown
  have hl : lv_has ls 3 [(0, .ref a_k), (1, .int x1), (2, .int x2)] := hl
  generalize hav : ([.ref a_k, .int x1, .int x2] : List Value) = av at hts ⊢
  have SS : CallFix p m c cX0_temporaryKindOf 3 s av.toArray wsX0_temporaryKindOf RX0 := ⟨hx, hb, hml, hown, hts⟩
  have hinX0 : ∀ w ∈ u_ws RX0 TX0 13, w ∈ wsX0_temporaryKindOf := by decide +kernel
  have lk36 := hts (.fieldLink RX0 36 "SignatureChanger$Calls" "temporaryKinds" "[I") (List.mem_of_getElem? (i := 1) rfl)
  unfold fX0_temporaryKindOf at h
  refine lv_aload_n hx hb dX0_temporaryKindOf_0 rfl (lv_at hl 0 rfl) ?_
  refine va_get (D := D) (ci := 0) (v := .ref a_k_temporaryKinds) (C := RX0) (T := TX0) (N := 13) hx hb hts hinX0 hown hKK.1 hP 0 rfl rfl 10 (by decide) lk36 (fun _ h9 => h9) rfl dX0_temporaryKindOf_1 ?_
  refine lv_iload_n hx hb dX0_temporaryKindOf_4 rfl (lv_at hl 1 rfl) ?_
  refine lv_bipush (v := 8) hx hb dX0_temporaryKindOf_5 (by decide) ?_
  refine lv_imul hx hb dX0_temporaryKindOf_7 ?_
  refine lv_iload_n hx hb dX0_temporaryKindOf_8 rfl (lv_at hl 2 rfl) ?_
  refine lv_iadd hx hb dX0_temporaryKindOf_9 ?_
  obtain ⟨v1, iv1, ev1, h⟩ := rd_some h
  refine kAld hx hb hKK hP 9 rfl iv1 ev1 dX0_temporaryKindOf_10 ?_
  exact kRet hx hb hr hlk (Option.some.inj h) dX0_temporaryKindOf_11
set_option maxHeartbeats 8000000 in
set_option maxRecDepth 100000 in
theorem qX8_bit (l : Launch) (D : va_G) (cI cM : ClassId) (x0 : Int32) (r : Int32) (h : fX8_bit x0 = some r) : PM l yX8_bit wsX8_bit rmX8_bit D cI cM [.int x0] ([]) r := by
  refine PM.of (cc := cX8_bit) (maxL := 1) (ret := (some .int)) (by decide) rfl (Nat.le_of_ble_eq_true rfl) ?_
  intro p e s m below meth c ls hx hb hr hml hown hts hlk hP hKK hl
  have hown : s.vm.findClass RX8 = some m.cls := hown
  have hl : lv_has ls 1 [(0, .int x0)] := hl
  generalize hav : ([.int x0] : List Value) = av at hts ⊢
  have SS : CallFix p m c cX8_bit 1 s av.toArray wsX8_bit RX8 := ⟨hx, hb, hml, hown, hts⟩
  unfold fX8_bit at h
  refine lv_iconst (v := 1) hx hb dX8_bit_0 (by decide) ?_
  refine lv_iload_n hx hb dX8_bit_1 rfl (lv_at hl 0 rfl) ?_
  refine lv_ishl hx hb dX8_bit_2 ?_
  exact kRet hx hb hr hlk (Option.some.inj h) dX8_bit_3
set_option maxHeartbeats 8000000 in
set_option maxRecDepth 100000 in
theorem qX0_withTargetIn (l : Launch) (D : va_G) (cI cM : ClassId) (a_k a_k_staticType a_k_dynamicType a_k_target a_k_argumentCounts a_k_temporaryCounts a_k_keys a_k_kinds a_k_values a_k_temporaryKinds a_k_newKinds a_k_newValues : Nat) (k_count : Int32) (k_frozenSet : Int32) (k_staticType : Nat → Int32) (k_dynamicType : Nat → Int32) (k_target : Nat → Int32) (k_argumentCounts : Nat → Int32) (k_temporaryCounts : Nat → Int32) (k_keys : Nat → Int32) (k_kinds : Nat → Int32) (k_values : Nat → Int32) (k_temporaryKinds : Nat → Int32) (k_newKinds : Nat → Int32) (k_newValues : Nat → Int32) (x1 : Int32) (r : Int32) (h : fX0_withTargetIn k_count k_target x1 = some r) : PM l yX0_withTargetIn wsX0_withTargetIn rmX0_withTargetIn D cI cM [.ref a_k, .int x1] (W_k cI cM a_k a_k_staticType a_k_dynamicType a_k_target a_k_argumentCounts a_k_temporaryCounts a_k_keys a_k_kinds a_k_values a_k_temporaryKinds a_k_newKinds a_k_newValues k_count k_frozenSet k_staticType k_dynamicType k_target k_argumentCounts k_temporaryCounts k_keys k_kinds k_values k_temporaryKinds k_newKinds k_newValues) r := by
  refine PM.of (cc := cX0_withTargetIn) (maxL := 4) (ret := (some .int)) (by decide) rfl (Nat.le_of_ble_eq_true rfl) ?_
  intro p e s m below meth c ls hx hb hr hml hown hts hlk hP hKK hl
  have hown : s.vm.findClass RX0 = some m.cls := hown
  have hl : lv_has ls 4 [(0, .ref a_k), (1, .int x1)] := hl
  generalize hav : ([.ref a_k, .int x1] : List Value) = av at hts ⊢
  have SS : CallFix p m c cX0_withTargetIn 4 s av.toArray wsX0_withTargetIn RX0 := ⟨hx, hb, hml, hown, hts⟩
  have hinX0 : ∀ w ∈ u_ws RX0 TX0 13, w ∈ wsX0_withTargetIn := by decide +kernel
  have lk18 := hts (.fieldLink RX0 18 "SignatureChanger$Calls" "target" "[I") (List.mem_of_getElem? (i := 2) rfl)
  have lk45 := hts (.fieldLink RX0 45 "SignatureChanger$Calls" "count" "I") (List.mem_of_getElem? (i := 1) rfl)
  have cw56 : va_CN rmX0_withTargetIn s av.toArray RX0 56 yX8_contains RX8 cX8_contains 2 (some .boolean) wsX8_contains rmX8_contains 0 0 2 ∧ (Cond.static yX8_contains).before av.toArray s = true ∧ True := ⟨va_cnB 2 hts gX0_withTargetIn_X8_contains_n56 rfl rfl rfl (hKK.2.at 15 rfl) (hts (.initialized RX8) (List.mem_of_getElem? (i := 4) rfl)) (by decide +kernel) ⟨Nat.le_of_ble_eq_true rfl, Nat.le_of_ble_eq_true rfl⟩, hts (.static yX8_contains) (List.mem_of_getElem? (i := 3) rfl), trivial⟩
  have cw60 : va_CN rmX0_withTargetIn s av.toArray RX0 60 yX8_bit RX8 cX8_bit 1 (some .int) wsX8_bit rmX8_bit 0 0 1 ∧ (Cond.static yX8_bit).before av.toArray s = true ∧ True := ⟨va_cnB 1 hts gX0_withTargetIn_X8_bit_n60 rfl rfl rfl (hKK.2.at 20 rfl) (hts (.initialized RX8) (List.mem_of_getElem? (i := 4) rfl)) (by decide +kernel) ⟨Nat.le_of_ble_eq_true rfl, Nat.le_of_ble_eq_true rfl⟩, hts (.static yX8_bit) (List.mem_of_getElem? (i := 6) rfl), trivial⟩
  have F4 : ∀ (n : Nat) (y1 : Int32) (y2 : Int32) (y3 : Int32), lX0_withTargetIn_4 k_count k_target n y1 y2 y3 = some r → ∀ ls : Array Slot, lv_has ls 4 [(0, .ref a_k), (1, .int y1), (2, .int y2), (3, .int y3)] → WP p l e rmX0_withTargetIn s m av below meth c r 4 ls [] := by
    intro n
    induction n with
    | zero => intro y1 y2 y3 h; exact no_some h
    | succ n ih =>
      intro y1 y2 y3 h ls hl
      rw [lX0_withTargetIn_4_s] at h
      refine lv_iload_n hx hb dX0_withTargetIn_4 rfl (lv_at hl 3 rfl) ?_
      refine lv_aload_n hx hb dX0_withTargetIn_5 rfl (lv_at hl 0 rfl) ?_
      refine va_get (D := D) (ci := 0) (v := .int k_count) (C := RX0) (T := TX0) (N := 13) hx hb hts hinX0 hown hKK.1 hP 0 rfl rfl 0 (by decide) lk45 (fun _ h9 => h9) rfl dX0_withTargetIn_6 ?_
      refine lv_icmp_ge (tgt := 38) hx hb dX0_withTargetIn_9 (by decide) (fun c1 => ?_) (fun c1 => ?_)
      · have h := ifp h c1
        refine lv_iload_n hx hb dX0_withTargetIn_38 rfl (lv_at hl 2 rfl) ?_
        exact kRet hx hb hr hlk (Option.some.inj h) dX0_withTargetIn_39
      · have h := ifn h c1
        refine lv_iload_n hx hb dX0_withTargetIn_12 rfl (lv_at hl 1 rfl) ?_
        refine lv_aload_n hx hb dX0_withTargetIn_13 rfl (lv_at hl 0 rfl) ?_
        refine va_get (D := D) (ci := 0) (v := .ref a_k_target) (C := RX0) (T := TX0) (N := 13) hx hb hts hinX0 hown hKK.1 hP 0 rfl rfl 4 (by decide) lk18 (fun _ h9 => h9) rfl dX0_withTargetIn_14 ?_
        refine lv_iload_n hx hb dX0_withTargetIn_17 rfl (lv_at hl 3 rfl) ?_
        obtain ⟨v2, iv2, ev2, h⟩ := rd_some h
        refine kAld hx hb hKK hP 3 rfl iv2 ev2 dX0_withTargetIn_18 ?_
        obtain ⟨v3, ev3, h⟩ := bn_some h
        refine kSN (As := [.int y1, .int v2]) (rest := []) SS hKK (qX8_contains l D cI cM y1 v2 v3 ev3) cw56 va_P_nil rfl hl.1 rfl (Nat.le_of_ble_eq_true rfl) dX0_withTargetIn_19 ⟨Nat.zero_le _, Nat.zero_le _⟩ ?_
        refine lv_if_eq (tgt := 32) hx hb dX0_withTargetIn_22 (by decide) (fun c4 => ?_) (fun c4 => ?_)
        · have h := ifp h c4
          refine lv_iinc (v := y3 + 1) (lv' := [(3, .int (y3 + 1)), (0, .ref a_k), (1, .int y1), (2, .int y2)]) hx hb dX0_withTargetIn_32 hl (k := 3) rfl rfl (by decide) rfl (fun ls hl => ?_)
          refine lv_goto (tgt := 4) hx hb dX0_withTargetIn_35 (by decide) ?_
          exact ih y1 y2 (y3 + 1) h ls (lv_sub (l' := [(0, .ref a_k), (1, .int y1), (2, .int y2), (3, .int (y3 + 1))]) hl [1, 2, 3, 0] rfl)
        · have h := ifn h c4
          refine lv_iload_n hx hb dX0_withTargetIn_25 rfl (lv_at hl 2 rfl) ?_
          refine lv_iload_n hx hb dX0_withTargetIn_26 rfl (lv_at hl 3 rfl) ?_
          obtain ⟨v5, ev5, h⟩ := bn_some h
          refine kSN (As := [.int y3]) (rest := [.int y2]) SS hKK (qX8_bit l D cI cM y3 v5 ev5) cw60 va_P_nil rfl hl.1 rfl (Nat.le_of_ble_eq_true rfl) dX0_withTargetIn_27 ⟨Nat.zero_le _, Nat.zero_le _⟩ ?_
          refine lv_ior hx hb dX0_withTargetIn_30 ?_
          refine lv_istore_n (lv' := [(2, .int (y2 ||| v5)), (0, .ref a_k), (1, .int y1), (3, .int y3)]) hx hb dX0_withTargetIn_31 rfl hl (by decide) rfl (fun ls hl => ?_)
          refine lv_iinc (v := y3 + 1) (lv' := [(3, .int (y3 + 1)), (2, .int (y2 ||| v5)), (0, .ref a_k), (1, .int y1)]) hx hb dX0_withTargetIn_32 hl (k := 3) rfl rfl (by decide) rfl (fun ls hl => ?_)
          refine lv_goto (tgt := 4) hx hb dX0_withTargetIn_35 (by decide) ?_
          exact ih y1 (y2 ||| v5) (y3 + 1) h ls (lv_sub (l' := [(0, .ref a_k), (1, .int y1), (2, .int (y2 ||| v5)), (3, .int (y3 + 1))]) hl [2, 3, 1, 0] rfl)
  unfold fX0_withTargetIn at h
  refine lv_iconst (v := 0) hx hb dX0_withTargetIn_0 (by decide) ?_
  refine lv_istore_n (lv' := [(2, .int 0), (0, .ref a_k), (1, .int x1)]) hx hb dX0_withTargetIn_1 rfl hl (by decide) rfl (fun ls hl => ?_)
  refine lv_iconst (v := 0) hx hb dX0_withTargetIn_2 (by decide) ?_
  refine lv_istore_n (lv' := [(3, .int 0), (2, .int 0), (0, .ref a_k), (1, .int x1)]) hx hb dX0_withTargetIn_3 rfl hl (by decide) rfl (fun ls hl => ?_)
  exact F4 5000 x1 0 0 h ls (lv_sub (l' := [(0, .ref a_k), (1, .int x1), (2, .int 0), (3, .int 0)]) hl [2, 3, 1, 0] rfl)
set_option maxHeartbeats 8000000 in
set_option maxRecDepth 100000 in
theorem qX5_keyOf (l : Launch) (D : va_G) (cI cM : ClassId) (a_m a_m_type a_m_name a_m_arity a_m_keys a_m_defaults : Nat) (m_count : Int32) (m_type : Nat → Int32) (m_name : Nat → Int32) (m_arity : Nat → Int32) (m_keys : Nat → Int32) (m_defaults : Nat → Int32) (x1 : Int32) (x2 : Int32) (r : Int32) (h : fX5_keyOf m_keys x1 x2 = some r) : PM l yX5_keyOf wsX5_keyOf rmX5_keyOf D cI cM [.ref a_m, .int x1, .int x2] (W_m cI cM a_m a_m_type a_m_name a_m_arity a_m_keys a_m_defaults m_count m_type m_name m_arity m_keys m_defaults) r := by
  refine PM.of (cc := cX5_keyOf) (maxL := 3) (ret := (some .int)) (by decide) rfl (Nat.le_of_ble_eq_true rfl) ?_
  intro p e s m below meth c ls hx hb hr hml hown hts hlk hP hKK hl
  have hown : s.vm.findClass RX5 = some m.cls := hown
  have hl : lv_has ls 3 [(0, .ref a_m), (1, .int x1), (2, .int x2)] := hl
  generalize hav : ([.ref a_m, .int x1, .int x2] : List Value) = av at hts ⊢
  have SS : CallFix p m c cX5_keyOf 3 s av.toArray wsX5_keyOf RX5 := ⟨hx, hb, hml, hown, hts⟩
  have hinX5 : ∀ w ∈ u_ws RX5 TX5 6, w ∈ wsX5_keyOf := by decide +kernel
  have lk21 := hts (.fieldLink RX5 21 "SignatureChanger$Methods" "keys" "[I") (List.mem_of_getElem? (i := 1) rfl)
  unfold fX5_keyOf at h
  refine lv_aload_n hx hb dX5_keyOf_0 rfl (lv_at hl 0 rfl) ?_
  refine va_get (D := D) (ci := 5) (v := .ref a_m_keys) (C := RX5) (T := TX5) (N := 6) hx hb hts hinX5 hown hKK.1 hP 0 rfl rfl 4 (by decide) lk21 (fun _ h9 => h9) rfl dX5_keyOf_1 ?_
  refine lv_iload_n hx hb dX5_keyOf_4 rfl (lv_at hl 1 rfl) ?_
  refine lv_iconst (v := 5) hx hb dX5_keyOf_5 (by decide) ?_
  refine lv_imul hx hb dX5_keyOf_6 ?_
  refine lv_iload_n hx hb dX5_keyOf_7 rfl (lv_at hl 2 rfl) ?_
  refine lv_iadd hx hb dX5_keyOf_8 ?_
  obtain ⟨v1, iv1, ev1, h⟩ := rd_some h
  refine kAld hx hb hKK hP 4 rfl iv1 ev1 dX5_keyOf_9 ?_
  exact kRet hx hb hr hlk (Option.some.inj h) dX5_keyOf_10
set_option maxHeartbeats 8000000 in
set_option maxRecDepth 100000 in
theorem qX0_fitsTarget (l : Launch) (D : va_G) (cI cM : ClassId) (a_k a_k_staticType a_k_dynamicType a_k_target a_k_argumentCounts a_k_temporaryCounts a_k_keys a_k_kinds a_k_values a_k_temporaryKinds a_k_newKinds a_k_newValues a_m a_m_type a_m_name a_m_arity a_m_keys a_m_defaults : Nat) (k_count : Int32) (k_frozenSet : Int32) (k_staticType : Nat → Int32) (k_dynamicType : Nat → Int32) (k_target : Nat → Int32) (k_argumentCounts : Nat → Int32) (k_temporaryCounts : Nat → Int32) (k_keys : Nat → Int32) (k_kinds : Nat → Int32) (k_values : Nat → Int32) (k_temporaryKinds : Nat → Int32) (k_newKinds : Nat → Int32) (k_newValues : Nat → Int32) (m_count : Int32) (m_type : Nat → Int32) (m_name : Nat → Int32) (m_arity : Nat → Int32) (m_keys : Nat → Int32) (m_defaults : Nat → Int32) (x1 : Int32) (r : Int32) (h : fX0_fitsTarget k_target k_argumentCounts k_keys m_arity m_keys x1 = some r) : PM l yX0_fitsTarget wsX0_fitsTarget rmX0_fitsTarget D cI cM [.ref a_k, .int x1, .ref a_m] (W_k_m cI cM a_k a_k_staticType a_k_dynamicType a_k_target a_k_argumentCounts a_k_temporaryCounts a_k_keys a_k_kinds a_k_values a_k_temporaryKinds a_k_newKinds a_k_newValues a_m a_m_type a_m_name a_m_arity a_m_keys a_m_defaults k_count k_frozenSet k_staticType k_dynamicType k_target k_argumentCounts k_temporaryCounts k_keys k_kinds k_values k_temporaryKinds k_newKinds k_newValues m_count m_type m_name m_arity m_keys m_defaults) r := by
  refine PM.of (cc := cX0_fitsTarget) (maxL := 5) (ret := (some .boolean)) (by decide) rfl (Nat.le_of_ble_eq_true rfl) ?_
  intro p e s m below meth c ls hx hb hr hml hown hts hlk hP hKK hl
  have hown : s.vm.findClass RX0 = some m.cls := hown
  have hl : lv_has ls 5 [(0, .ref a_k), (1, .int x1), (2, .ref a_m)] := hl
  generalize hav : ([.ref a_k, .int x1, .ref a_m] : List Value) = av at hts ⊢
  have SS : CallFix p m c cX0_fitsTarget 5 s av.toArray wsX0_fitsTarget RX0 := ⟨hx, hb, hml, hown, hts⟩
  have hinX0 : ∀ w ∈ u_ws RX0 TX0 13, w ∈ wsX0_fitsTarget := by decide +kernel
  have hinX5 : ∀ w ∈ u_ws RX5 TX5 6, w ∈ wsX0_fitsTarget := by decide +kernel
  have lk18 := hts (.fieldLink RX0 18 "SignatureChanger$Calls" "target" "[I") (List.mem_of_getElem? (i := 1) rfl)
  have lk21 := hts (.fieldLink RX0 21 "SignatureChanger$Calls" "argumentCounts" "[I") (List.mem_of_getElem? (i := 2) rfl)
  have lk64 := hts (.fieldLink RX0 64 "SignatureChanger$Methods" "arity" "[I") (List.mem_of_getElem? (i := 3) rfl)
  have cw69 : CallW rmX0_fitsTarget s av.toArray RX0 RX0 69 yX0_keyOf cX0_keyOf 3 (some .int) wsX0_keyOf rmX0_keyOf 0 0 2 := cwV 2 hts gX0_fitsTarget_X0_keyOf rfl rfl rfl (by decide +kernel) ⟨Nat.le_of_ble_eq_true rfl, Nat.le_of_ble_eq_true rfl⟩
  have cw73 : CallW rmX0_fitsTarget s av.toArray RX0 RX5 73 yX5_keyOf cX5_keyOf 3 (some .int) wsX5_keyOf rmX5_keyOf 0 0 2 := cwV 2 hts gX0_fitsTarget_X5_keyOf rfl rfl rfl (by decide +kernel) ⟨Nat.le_of_ble_eq_true rfl, Nat.le_of_ble_eq_true rfl⟩
  have F27 : ∀ (n : Nat) (y1 : Int32) (y3 : Int32) (y4 : Int32), lX0_fitsTarget_27 k_target k_argumentCounts k_keys m_arity m_keys n y1 y3 y4 = some r → ∀ ls : Array Slot, lv_has ls 5 [(0, .ref a_k), (1, .int y1), (2, .ref a_m), (3, .int y3), (4, .int y4)] → WP p l e rmX0_fitsTarget s m av below meth c r 27 ls [] := by
    intro n
    induction n with
    | zero => intro y1 y3 y4 h; exact no_some h
    | succ n ih =>
      intro y1 y3 y4 h ls hl
      rw [lX0_fitsTarget_27_s] at h
      refine lv_iload hx hb dX0_fitsTarget_27 (lv_at hl 4 rfl) ?_
      refine lv_aload_n hx hb dX0_fitsTarget_29 rfl (lv_at hl 0 rfl) ?_
      refine va_get (D := D) (ci := 0) (v := .ref a_k_argumentCounts) (C := RX0) (T := TX0) (N := 13) hx hb hts hinX0 hown hKK.1 hP 0 rfl rfl 5 (by decide) lk21 (fun _ h9 => h9) rfl dX0_fitsTarget_30 ?_
      refine lv_iload_n hx hb dX0_fitsTarget_33 rfl (lv_at hl 1 rfl) ?_
      obtain ⟨v1, iv1, ev1, h⟩ := rd_some h
      refine kAld hx hb hKK hP 4 rfl iv1 ev1 dX0_fitsTarget_34 ?_
      refine lv_icmp_ge (tgt := 63) hx hb dX0_fitsTarget_35 (by decide) (fun c2 => ?_) (fun c2 => ?_)
      · have h := ifp h c2
        refine lv_iconst (v := 1) hx hb dX0_fitsTarget_63 (by decide) ?_
        exact kRetZ hx hb hr hlk rfl (Option.some.inj h) dX0_fitsTarget_64
      · have h := ifn h c2
        refine lv_aload_n hx hb dX0_fitsTarget_38 rfl (lv_at hl 0 rfl) ?_
        refine lv_iload_n hx hb dX0_fitsTarget_39 rfl (lv_at hl 1 rfl) ?_
        refine lv_iload hx hb dX0_fitsTarget_40 (lv_at hl 4 rfl) ?_
        obtain ⟨v3, ev3, h⟩ := bn_some h
        have hs4 : va_P D vwCl (W_k cI cM a_k a_k_staticType a_k_dynamicType a_k_target a_k_argumentCounts a_k_temporaryCounts a_k_keys a_k_kinds a_k_values a_k_temporaryKinds a_k_newKinds a_k_newValues k_count k_frozenSet k_staticType k_dynamicType k_target k_argumentCounts k_temporaryCounts k_keys k_kinds k_values k_temporaryKinds k_newKinds k_newValues) _ := blkP (Bs := [B_k cI cM a_k a_k_staticType a_k_dynamicType a_k_target a_k_argumentCounts a_k_temporaryCounts a_k_keys a_k_kinds a_k_values a_k_temporaryKinds a_k_newKinds a_k_newValues k_count k_frozenSet k_staticType k_dynamicType k_target k_argumentCounts k_temporaryCounts k_keys k_kinds k_values k_temporaryKinds k_newKinds k_newValues, B_m cI cM a_m a_m_type a_m_name a_m_arity a_m_keys a_m_defaults m_count m_type m_name m_arity m_keys m_defaults]) hP [0] (C0 := [B_k cI cM a_k a_k_staticType a_k_dynamicType a_k_target a_k_argumentCounts a_k_temporaryCounts a_k_keys a_k_kinds a_k_values a_k_temporaryKinds a_k_newKinds a_k_newValues k_count k_frozenSet k_staticType k_dynamicType k_target k_argumentCounts k_temporaryCounts k_keys k_kinds k_values k_temporaryKinds k_newKinds k_newValues]) rfl rfl
        refine kV (As := [.int y1, .int y4]) (rest := []) SS hKK (qX0_keyOf l D cI cM a_k a_k_staticType a_k_dynamicType a_k_target a_k_argumentCounts a_k_temporaryCounts a_k_keys a_k_kinds a_k_values a_k_temporaryKinds a_k_newKinds a_k_newValues k_count k_frozenSet k_staticType k_dynamicType k_target k_argumentCounts k_temporaryCounts k_keys k_kinds k_values k_temporaryKinds k_newKinds k_newValues y1 y4 v3 ev3) cw69 hs4 0 0 rfl rfl rfl hl.1 rfl (Nat.le_of_ble_eq_true rfl) dX0_fitsTarget_42 ⟨Nat.zero_le _, Nat.zero_le _⟩ ?_
        refine lv_aload_n hx hb dX0_fitsTarget_45 rfl (lv_at hl 2 rfl) ?_
        refine lv_iload_n hx hb dX0_fitsTarget_46 rfl (lv_at hl 3 rfl) ?_
        refine lv_iload hx hb dX0_fitsTarget_47 (lv_at hl 4 rfl) ?_
        obtain ⟨v5, ev5, h⟩ := bn_some h
        have hs6 : va_P D vwCl (W_m cI cM a_m a_m_type a_m_name a_m_arity a_m_keys a_m_defaults m_count m_type m_name m_arity m_keys m_defaults) _ := blkP (Bs := [B_k cI cM a_k a_k_staticType a_k_dynamicType a_k_target a_k_argumentCounts a_k_temporaryCounts a_k_keys a_k_kinds a_k_values a_k_temporaryKinds a_k_newKinds a_k_newValues k_count k_frozenSet k_staticType k_dynamicType k_target k_argumentCounts k_temporaryCounts k_keys k_kinds k_values k_temporaryKinds k_newKinds k_newValues, B_m cI cM a_m a_m_type a_m_name a_m_arity a_m_keys a_m_defaults m_count m_type m_name m_arity m_keys m_defaults]) hP [1] (C0 := [B_m cI cM a_m a_m_type a_m_name a_m_arity a_m_keys a_m_defaults m_count m_type m_name m_arity m_keys m_defaults]) rfl rfl
        refine kV (As := [.int y3, .int y4]) (rest := [.int v3]) SS hKK (qX5_keyOf l D cI cM a_m a_m_type a_m_name a_m_arity a_m_keys a_m_defaults m_count m_type m_name m_arity m_keys m_defaults y3 y4 v5 ev5) cw73 hs6 0 5 rfl rfl rfl hl.1 rfl (Nat.le_of_ble_eq_true rfl) dX0_fitsTarget_49 ⟨Nat.zero_le _, Nat.zero_le _⟩ ?_
        refine lv_icmp_eq (tgt := 57) hx hb dX0_fitsTarget_52 (by decide) (fun c7 => ?_) (fun c7 => ?_)
        · have h := ifp h c7
          refine lv_iinc (v := y4 + 1) (lv' := [(4, .int (y4 + 1)), (0, .ref a_k), (1, .int y1), (2, .ref a_m), (3, .int y3)]) hx hb dX0_fitsTarget_57 hl (k := 4) rfl rfl (by decide) rfl (fun ls hl => ?_)
          refine lv_goto (tgt := 27) hx hb dX0_fitsTarget_60 (by decide) ?_
          exact ih y1 y3 (y4 + 1) h ls (lv_sub (l' := [(0, .ref a_k), (1, .int y1), (2, .ref a_m), (3, .int y3), (4, .int (y4 + 1))]) hl [1, 2, 3, 4, 0] rfl)
        · have h := ifn h c7
          refine lv_iconst (v := 0) hx hb dX0_fitsTarget_55 (by decide) ?_
          exact kRetZ hx hb hr hlk rfl (Option.some.inj h) dX0_fitsTarget_56
  unfold fX0_fitsTarget at h
  refine lv_aload_n hx hb dX0_fitsTarget_0 rfl (lv_at hl 0 rfl) ?_
  refine va_get (D := D) (ci := 0) (v := .ref a_k_target) (C := RX0) (T := TX0) (N := 13) hx hb hts hinX0 hown hKK.1 hP 0 rfl rfl 4 (by decide) lk18 (fun _ h9 => h9) rfl dX0_fitsTarget_1 ?_
  refine lv_iload_n hx hb dX0_fitsTarget_4 rfl (lv_at hl 1 rfl) ?_
  obtain ⟨v1, iv1, ev1, h⟩ := rd_some h
  refine kAld hx hb hKK hP 3 rfl iv1 ev1 dX0_fitsTarget_5 ?_
  refine lv_istore_n (lv' := [(3, .int v1), (0, .ref a_k), (1, .int x1), (2, .ref a_m)]) hx hb dX0_fitsTarget_6 rfl hl (by decide) rfl (fun ls hl => ?_)
  refine lv_aload_n hx hb dX0_fitsTarget_7 rfl (lv_at hl 1 rfl) ?_
  refine va_get (D := D) (ci := 0) (v := .ref a_k_argumentCounts) (C := RX0) (T := TX0) (N := 13) hx hb hts hinX0 hown hKK.1 hP 0 rfl rfl 5 (by decide) lk21 (fun _ h9 => h9) rfl dX0_fitsTarget_8 ?_
  refine lv_iload_n hx hb dX0_fitsTarget_11 rfl (lv_at hl 2 rfl) ?_
  obtain ⟨v2, iv2, ev2, h⟩ := rd_some h
  refine kAld hx hb hKK hP 4 rfl iv2 ev2 dX0_fitsTarget_12 ?_
  refine lv_aload_n hx hb dX0_fitsTarget_13 rfl (lv_at hl 3 rfl) ?_
  refine va_get (D := D) (ci := 5) (v := .ref a_m_arity) (C := RX5) (T := TX5) (N := 6) hx hb hts hinX5 hown hKK.1 hP 12 rfl rfl 3 (by decide) lk64 (fun _ h9 => h9) rfl dX0_fitsTarget_14 ?_
  refine lv_iload_n hx hb dX0_fitsTarget_17 rfl (lv_at hl 0 rfl) ?_
  obtain ⟨v3, iv3, ev3, h⟩ := rd_some h
  refine kAld hx hb hKK hP 15 rfl iv3 ev3 dX0_fitsTarget_18 ?_
  refine lv_icmp_eq (tgt := 24) hx hb dX0_fitsTarget_19 (by decide) (fun c4 => ?_) (fun c4 => ?_)
  · have h := ifp h c4
    refine lv_iconst (v := 0) hx hb dX0_fitsTarget_24 (by decide) ?_
    refine lv_istore (lv' := [(4, .int 0), (3, .int v1), (0, .ref a_k), (1, .int x1), (2, .ref a_m)]) hx hb dX0_fitsTarget_25 hl (by decide) rfl (fun ls hl => ?_)
    exact F27 5000 x1 v1 0 h ls (lv_sub (l' := [(0, .ref a_k), (1, .int x1), (2, .ref a_m), (3, .int v1), (4, .int 0)]) hl [2, 3, 4, 1, 0] rfl)
  · have h := ifn h c4
    refine lv_iconst (v := 0) hx hb dX0_fitsTarget_22 (by decide) ?_
    exact kRetZ hx hb hr hlk rfl (Option.some.inj h) dX0_fitsTarget_23
set_option maxHeartbeats 8000000 in
set_option maxRecDepth 100000 in
theorem qX0_putArgument (l : Launch) (D : va_G) (cI cM : ClassId) (a_k a_k_staticType a_k_dynamicType a_k_target a_k_argumentCounts a_k_temporaryCounts a_k_keys a_k_kinds a_k_values a_k_temporaryKinds a_k_newKinds a_k_newValues : Nat) (k_count : Int32) (k_frozenSet : Int32) (k_staticType : Nat → Int32) (k_dynamicType : Nat → Int32) (k_target : Nat → Int32) (k_argumentCounts : Nat → Int32) (k_temporaryCounts : Nat → Int32) (k_keys : Nat → Int32) (k_kinds : Nat → Int32) (k_values : Nat → Int32) (k_temporaryKinds : Nat → Int32) (k_newKinds : Nat → Int32) (k_newValues : Nat → Int32) (x1 : Int32) (x2 : Int32) (x3 : Int32) (x4 : Int32) (r_k_kinds : Nat → Int32) (r_k_values : Nat → Int32) (h : fX0_putArgument k_kinds k_values x1 x2 x3 x4 = some (r_k_kinds, r_k_values)) : IM l yX0_putArgument wsX0_putArgument rmX0_putArgument D cI cM [.ref a_k, .int x1, .int x2, .int x3, .int x4] (W_k cI cM a_k a_k_staticType a_k_dynamicType a_k_target a_k_argumentCounts a_k_temporaryCounts a_k_keys a_k_kinds a_k_values a_k_temporaryKinds a_k_newKinds a_k_newValues k_count k_frozenSet k_staticType k_dynamicType k_target k_argumentCounts k_temporaryCounts k_keys k_kinds k_values k_temporaryKinds k_newKinds k_newValues) (W_k cI cM a_k a_k_staticType a_k_dynamicType a_k_target a_k_argumentCounts a_k_temporaryCounts a_k_keys a_k_kinds a_k_values a_k_temporaryKinds a_k_newKinds a_k_newValues k_count k_frozenSet k_staticType k_dynamicType k_target k_argumentCounts k_temporaryCounts k_keys r_k_kinds r_k_values k_temporaryKinds k_newKinds k_newValues) none := by
  refine IM.of (cc := cX0_putArgument) (maxL := 5) (ret := none) (by decide) rfl (Nat.le_of_ble_eq_true rfl) ?_
  intro p e s m below meth c ls hx hb hr hml hown hts hlk hKK hP hD hS hl
  have hown : s.vm.findClass RX0 = some m.cls := hown
  have hl : lv_has ls 5 [(0, .ref a_k), (1, .int x1), (2, .int x2), (3, .int x3), (4, .int x4)] := hl
  generalize hav : ([.ref a_k, .int x1, .int x2, .int x3, .int x4] : List Value) = av at hts ⊢
  generalize hw1 : W_k cI cM a_k a_k_staticType a_k_dynamicType a_k_target a_k_argumentCounts a_k_temporaryCounts a_k_keys a_k_kinds a_k_values a_k_temporaryKinds a_k_newKinds a_k_newValues k_count k_frozenSet k_staticType k_dynamicType k_target k_argumentCounts k_temporaryCounts k_keys r_k_kinds r_k_values k_temporaryKinds k_newKinds k_newValues = w1
  generalize hw0 : W_k cI cM a_k a_k_staticType a_k_dynamicType a_k_target a_k_argumentCounts a_k_temporaryCounts a_k_keys a_k_kinds a_k_values a_k_temporaryKinds a_k_newKinds a_k_newValues k_count k_frozenSet k_staticType k_dynamicType k_target k_argumentCounts k_temporaryCounts k_keys k_kinds k_values k_temporaryKinds k_newKinds k_newValues = w0 at hD hS ⊢
  have hP : va_P D vwCl (W_k cI cM a_k a_k_staticType a_k_dynamicType a_k_target a_k_argumentCounts a_k_temporaryCounts a_k_keys a_k_kinds a_k_values a_k_temporaryKinds a_k_newKinds a_k_newValues k_count k_frozenSet k_staticType k_dynamicType k_target k_argumentCounts k_temporaryCounts k_keys k_kinds k_values k_temporaryKinds k_newKinds k_newValues) s.heap := hP
  have hD : va_D (fun q => q ∈ w0.map (·.1)) (W_k cI cM a_k a_k_staticType a_k_dynamicType a_k_target a_k_argumentCounts a_k_temporaryCounts a_k_keys a_k_kinds a_k_values a_k_temporaryKinds a_k_newKinds a_k_newValues k_count k_frozenSet k_staticType k_dynamicType k_target k_argumentCounts k_temporaryCounts k_keys k_kinds k_values k_temporaryKinds k_newKinds k_newValues) := by rw [hw0]; exact hD
  have SS : CallFix p m c cX0_putArgument 5 s av.toArray wsX0_putArgument RX0 := ⟨hx, hb, hml, hown, hts⟩
  have hinX0 : ∀ w ∈ u_ws RX0 TX0 13, w ∈ wsX0_putArgument := by decide +kernel
  have lk30 := hts (.fieldLink RX0 30 "SignatureChanger$Calls" "kinds" "[I") (List.mem_of_getElem? (i := 1) rfl)
  have lk33 := hts (.fieldLink RX0 33 "SignatureChanger$Calls" "values" "[I") (List.mem_of_getElem? (i := 2) rfl)
  unfold fX0_putArgument at h
  refine lv_aload_n hx hb dX0_putArgument_0 rfl (lv_at hl 0 rfl) ?_
  refine va_get (D := D) (ci := 0) (v := .ref a_k_kinds) (C := RX0) (T := TX0) (N := 13) hx hb hts hinX0 hown hKK.1 hP 0 rfl rfl 8 (by decide) lk30 (fun _ h9 => h9) rfl dX0_putArgument_1 ?_
  refine lv_iload_n hx hb dX0_putArgument_4 rfl (lv_at hl 1 rfl) ?_
  refine lv_iconst (v := 5) hx hb dX0_putArgument_5 (by decide) ?_
  refine lv_imul hx hb dX0_putArgument_6 ?_
  refine lv_iload_n hx hb dX0_putArgument_7 rfl (lv_at hl 2 rfl) ?_
  refine lv_iadd hx hb dX0_putArgument_8 ?_
  refine lv_iload_n hx hb dX0_putArgument_9 rfl (lv_at hl 3 rfl) ?_
  obtain ⟨g1, ig1, eg1, h⟩ := wr_some h
  refine kAst hx hb hKK hP hD hS 7 rfl ig1 eg1 dX0_putArgument_10 (fun H locs hP hD hS => ?_)
  have hP : va_P D vwCl (W_k cI cM a_k a_k_staticType a_k_dynamicType a_k_target a_k_argumentCounts a_k_temporaryCounts a_k_keys a_k_kinds a_k_values a_k_temporaryKinds a_k_newKinds a_k_newValues k_count k_frozenSet k_staticType k_dynamicType k_target k_argumentCounts k_temporaryCounts k_keys g1 k_values k_temporaryKinds k_newKinds k_newValues) H := hP
  have hD : va_D _ (W_k cI cM a_k a_k_staticType a_k_dynamicType a_k_target a_k_argumentCounts a_k_temporaryCounts a_k_keys a_k_kinds a_k_values a_k_temporaryKinds a_k_newKinds a_k_newValues k_count k_frozenSet k_staticType k_dynamicType k_target k_argumentCounts k_temporaryCounts k_keys g1 k_values k_temporaryKinds k_newKinds k_newValues) := hD
  refine lv_aload_n hx hb dX0_putArgument_11 rfl (lv_at hl 0 rfl) ?_
  refine va_get (D := D) (ci := 0) (v := .ref a_k_values) (C := RX0) (T := TX0) (N := 13) hx hb hts hinX0 hown hKK.1 hP 0 rfl rfl 9 (by decide) lk33 (fun _ h9 => h9) rfl dX0_putArgument_12 ?_
  refine lv_iload_n hx hb dX0_putArgument_15 rfl (lv_at hl 1 rfl) ?_
  refine lv_iconst (v := 5) hx hb dX0_putArgument_16 (by decide) ?_
  refine lv_imul hx hb dX0_putArgument_17 ?_
  refine lv_iload_n hx hb dX0_putArgument_18 rfl (lv_at hl 2 rfl) ?_
  refine lv_iadd hx hb dX0_putArgument_19 ?_
  refine lv_iload hx hb dX0_putArgument_20 (lv_at hl 4 rfl) ?_
  obtain ⟨g2, ig2, eg2, h⟩ := wr_some h
  refine kAst hx hb hKK hP hD hS 8 rfl ig2 eg2 dX0_putArgument_22 (fun H locs hP hD hS => ?_)
  have hP : va_P D vwCl (W_k cI cM a_k a_k_staticType a_k_dynamicType a_k_target a_k_argumentCounts a_k_temporaryCounts a_k_keys a_k_kinds a_k_values a_k_temporaryKinds a_k_newKinds a_k_newValues k_count k_frozenSet k_staticType k_dynamicType k_target k_argumentCounts k_temporaryCounts k_keys g1 g2 k_temporaryKinds k_newKinds k_newValues) H := hP
  have hD : va_D _ (W_k cI cM a_k a_k_staticType a_k_dynamicType a_k_target a_k_argumentCounts a_k_temporaryCounts a_k_keys a_k_kinds a_k_values a_k_temporaryKinds a_k_newKinds a_k_newValues k_count k_frozenSet k_staticType k_dynamicType k_target k_argumentCounts k_temporaryCounts k_keys g1 g2 k_temporaryKinds k_newKinds k_newValues) := hD
  simp only [Option.some.injEq, Prod.mk.injEq] at h
  obtain ⟨e0, e1⟩ := h
  exact kRetV hx hb hr hlk (by rw [← hw1, ← e0, ← e1]; exact hP) hS dX0_putArgument_23
set_option maxHeartbeats 8000000 in
set_option maxRecDepth 100000 in
theorem qX0_add (l : Launch) (D : va_G) (cI cM : ClassId) (a_k a_k_staticType a_k_dynamicType a_k_target a_k_argumentCounts a_k_temporaryCounts a_k_keys a_k_kinds a_k_values a_k_temporaryKinds a_k_newKinds a_k_newValues a_m a_m_type a_m_name a_m_arity a_m_keys a_m_defaults : Nat) (k_count : Int32) (k_frozenSet : Int32) (k_staticType : Nat → Int32) (k_dynamicType : Nat → Int32) (k_target : Nat → Int32) (k_argumentCounts : Nat → Int32) (k_temporaryCounts : Nat → Int32) (k_keys : Nat → Int32) (k_kinds : Nat → Int32) (k_values : Nat → Int32) (k_temporaryKinds : Nat → Int32) (k_newKinds : Nat → Int32) (k_newValues : Nat → Int32) (m_count : Int32) (m_type : Nat → Int32) (m_name : Nat → Int32) (m_arity : Nat → Int32) (m_keys : Nat → Int32) (m_defaults : Nat → Int32) (x1 : Int32) (x2 : Int32) (x3 : Int32) (r : Int32) (r_k_count : Int32) (r_k_staticType : Nat → Int32) (r_k_dynamicType : Nat → Int32) (r_k_target : Nat → Int32) (r_k_argumentCounts : Nat → Int32) (r_k_temporaryCounts : Nat → Int32) (r_k_keys : Nat → Int32) (r_k_kinds : Nat → Int32) (r_k_values : Nat → Int32) (h : fX0_add k_count k_staticType k_dynamicType k_target k_argumentCounts k_temporaryCounts k_keys k_kinds k_values m_arity m_keys x1 x2 x3 = some (r, r_k_count, r_k_staticType, r_k_dynamicType, r_k_target, r_k_argumentCounts, r_k_temporaryCounts, r_k_keys, r_k_kinds, r_k_values)) : IM l yX0_add wsX0_add rmX0_add D cI cM [.ref a_k, .int x1, .int x2, .int x3, .ref a_m] (W_k_m cI cM a_k a_k_staticType a_k_dynamicType a_k_target a_k_argumentCounts a_k_temporaryCounts a_k_keys a_k_kinds a_k_values a_k_temporaryKinds a_k_newKinds a_k_newValues a_m a_m_type a_m_name a_m_arity a_m_keys a_m_defaults k_count k_frozenSet k_staticType k_dynamicType k_target k_argumentCounts k_temporaryCounts k_keys k_kinds k_values k_temporaryKinds k_newKinds k_newValues m_count m_type m_name m_arity m_keys m_defaults) (W_k_m cI cM a_k a_k_staticType a_k_dynamicType a_k_target a_k_argumentCounts a_k_temporaryCounts a_k_keys a_k_kinds a_k_values a_k_temporaryKinds a_k_newKinds a_k_newValues a_m a_m_type a_m_name a_m_arity a_m_keys a_m_defaults r_k_count k_frozenSet r_k_staticType r_k_dynamicType r_k_target r_k_argumentCounts r_k_temporaryCounts r_k_keys r_k_kinds r_k_values k_temporaryKinds k_newKinds k_newValues m_count m_type m_name m_arity m_keys m_defaults) (some (.int r)) := by
  refine IM.of (cc := cX0_add) (maxL := 7) (ret := (some .int)) (by decide) rfl (Nat.le_of_ble_eq_true rfl) ?_
  intro p e s m below meth c ls hx hb hr hml hown hts hlk hKK hP hD hS hl
  have hown : s.vm.findClass RX0 = some m.cls := hown
  have hl : lv_has ls 7 [(0, .ref a_k), (1, .int x1), (2, .int x2), (3, .int x3), (4, .ref a_m)] := hl
  generalize hav : ([.ref a_k, .int x1, .int x2, .int x3, .ref a_m] : List Value) = av at hts ⊢
  generalize hw1 : W_k_m cI cM a_k a_k_staticType a_k_dynamicType a_k_target a_k_argumentCounts a_k_temporaryCounts a_k_keys a_k_kinds a_k_values a_k_temporaryKinds a_k_newKinds a_k_newValues a_m a_m_type a_m_name a_m_arity a_m_keys a_m_defaults r_k_count k_frozenSet r_k_staticType r_k_dynamicType r_k_target r_k_argumentCounts r_k_temporaryCounts r_k_keys r_k_kinds r_k_values k_temporaryKinds k_newKinds k_newValues m_count m_type m_name m_arity m_keys m_defaults = w1
  generalize hw0 : W_k_m cI cM a_k a_k_staticType a_k_dynamicType a_k_target a_k_argumentCounts a_k_temporaryCounts a_k_keys a_k_kinds a_k_values a_k_temporaryKinds a_k_newKinds a_k_newValues a_m a_m_type a_m_name a_m_arity a_m_keys a_m_defaults k_count k_frozenSet k_staticType k_dynamicType k_target k_argumentCounts k_temporaryCounts k_keys k_kinds k_values k_temporaryKinds k_newKinds k_newValues m_count m_type m_name m_arity m_keys m_defaults = w0 at hD hS ⊢
  have hP : va_P D vwCl (W_k_m cI cM a_k a_k_staticType a_k_dynamicType a_k_target a_k_argumentCounts a_k_temporaryCounts a_k_keys a_k_kinds a_k_values a_k_temporaryKinds a_k_newKinds a_k_newValues a_m a_m_type a_m_name a_m_arity a_m_keys a_m_defaults k_count k_frozenSet k_staticType k_dynamicType k_target k_argumentCounts k_temporaryCounts k_keys k_kinds k_values k_temporaryKinds k_newKinds k_newValues m_count m_type m_name m_arity m_keys m_defaults) s.heap := hP
  have hD : va_D (fun q => q ∈ w0.map (·.1)) (W_k_m cI cM a_k a_k_staticType a_k_dynamicType a_k_target a_k_argumentCounts a_k_temporaryCounts a_k_keys a_k_kinds a_k_values a_k_temporaryKinds a_k_newKinds a_k_newValues a_m a_m_type a_m_name a_m_arity a_m_keys a_m_defaults k_count k_frozenSet k_staticType k_dynamicType k_target k_argumentCounts k_temporaryCounts k_keys k_kinds k_values k_temporaryKinds k_newKinds k_newValues m_count m_type m_name m_arity m_keys m_defaults) := by rw [hw0]; exact hD
  have SS : CallFix p m c cX0_add 7 s av.toArray wsX0_add RX0 := ⟨hx, hb, hml, hown, hts⟩
  have hinX0 : ∀ w ∈ u_ws RX0 TX0 13, w ∈ wsX0_add := by decide +kernel
  have hinX5 : ∀ w ∈ u_ws RX5 TX5 6, w ∈ wsX0_add := by decide +kernel
  have lk9 := hts (.fieldLink RX0 9 "SignatureChanger$Calls" "staticType" "[I") (List.mem_of_getElem? (i := 2) rfl)
  have lk15 := hts (.fieldLink RX0 15 "SignatureChanger$Calls" "dynamicType" "[I") (List.mem_of_getElem? (i := 3) rfl)
  have lk18 := hts (.fieldLink RX0 18 "SignatureChanger$Calls" "target" "[I") (List.mem_of_getElem? (i := 4) rfl)
  have lk21 := hts (.fieldLink RX0 21 "SignatureChanger$Calls" "argumentCounts" "[I") (List.mem_of_getElem? (i := 5) rfl)
  have lk24 := hts (.fieldLink RX0 24 "SignatureChanger$Calls" "temporaryCounts" "[I") (List.mem_of_getElem? (i := 7) rfl)
  have lk27 := hts (.fieldLink RX0 27 "SignatureChanger$Calls" "keys" "[I") (List.mem_of_getElem? (i := 8) rfl)
  have lk45 := hts (.fieldLink RX0 45 "SignatureChanger$Calls" "count" "I") (List.mem_of_getElem? (i := 1) rfl)
  have lk64 := hts (.fieldLink RX0 64 "SignatureChanger$Methods" "arity" "[I") (List.mem_of_getElem? (i := 6) rfl)
  have cw73 : CallW rmX0_add s av.toArray RX0 RX5 73 yX5_keyOf cX5_keyOf 3 (some .int) wsX5_keyOf rmX5_keyOf 0 0 2 := cwV 2 hts gX0_add_X5_keyOf rfl rfl rfl (by decide +kernel) ⟨Nat.le_of_ble_eq_true rfl, Nat.le_of_ble_eq_true rfl⟩
  have cw74 : CallW rmX0_add s av.toArray RX0 RX0 74 yX0_putArgument cX0_putArgument 5 none wsX0_putArgument rmX0_putArgument 0 0 4 := cwV 4 hts gX0_add_X0_putArgument rfl rfl rfl (by decide +kernel) ⟨Nat.le_of_ble_eq_true rfl, Nat.le_of_ble_eq_true rfl⟩
  have F55 : ∀ (n : Nat) (H : Heap) (locs : List Loc) (k_count : Int32) (k_staticType : Nat → Int32) (k_dynamicType : Nat → Int32) (k_target : Nat → Int32) (k_argumentCounts : Nat → Int32) (k_temporaryCounts : Nat → Int32) (k_keys : Nat → Int32) (k_kinds : Nat → Int32) (k_values : Nat → Int32) (y3 : Int32) (y5 : Int32) (y6 : Int32), lX0_add_55 m_arity m_keys n k_count k_staticType k_dynamicType k_target k_argumentCounts k_temporaryCounts k_keys k_kinds k_values y3 y5 y6 = some (r, r_k_count, r_k_staticType, r_k_dynamicType, r_k_target, r_k_argumentCounts, r_k_temporaryCounts, r_k_keys, r_k_kinds, r_k_values) → va_P D vwCl (W_k_m cI cM a_k a_k_staticType a_k_dynamicType a_k_target a_k_argumentCounts a_k_temporaryCounts a_k_keys a_k_kinds a_k_values a_k_temporaryKinds a_k_newKinds a_k_newValues a_m a_m_type a_m_name a_m_arity a_m_keys a_m_defaults k_count k_frozenSet k_staticType k_dynamicType k_target k_argumentCounts k_temporaryCounts k_keys k_kinds k_values k_temporaryKinds k_newKinds k_newValues m_count m_type m_name m_arity m_keys m_defaults) H → va_D (fun q => q ∈ (w0).map (·.1)) (W_k_m cI cM a_k a_k_staticType a_k_dynamicType a_k_target a_k_argumentCounts a_k_temporaryCounts a_k_keys a_k_kinds a_k_values a_k_temporaryKinds a_k_newKinds a_k_newValues a_m a_m_type a_m_name a_m_arity a_m_keys a_m_defaults k_count k_frozenSet k_staticType k_dynamicType k_target k_argumentCounts k_temporaryCounts k_keys k_kinds k_values k_temporaryKinds k_newKinds k_newValues m_count m_type m_name m_arity m_keys m_defaults) → va_S (fun q => q ∈ (w0).map (·.1)) s.heap H locs → ∀ ls : Array Slot, lv_has ls 7 [(0, .ref a_k), (3, .int y3), (4, .ref a_m), (5, .int y5), (6, .int y6)] → WI p l e rmX0_add s m av below meth c D w0 w1 (some (.int r)) H locs 55 ls [] := by
    intro n
    induction n with
    | zero => intro H locs k_count k_staticType k_dynamicType k_target k_argumentCounts k_temporaryCounts k_keys k_kinds k_values y3 y5 y6 h; exact no_some h
    | succ n ih =>
      intro H locs k_count k_staticType k_dynamicType k_target k_argumentCounts k_temporaryCounts k_keys k_kinds k_values y3 y5 y6 h hP hD hS ls hl
      rw [lX0_add_55_s] at h
      refine lv_iload hx hb dX0_add_55 (lv_at hl 4 rfl) ?_
      refine lv_aload hx hb dX0_add_57 (lv_at hl 2 rfl) ?_
      refine va_get (D := D) (ci := 5) (v := .ref a_m_arity) (C := RX5) (T := TX5) (N := 6) hx hb hts hinX5 hown hKK.1 hP 12 rfl rfl 3 (by decide) lk64 (fun _ h9 => h9) rfl dX0_add_59 ?_
      refine lv_iload_n hx hb dX0_add_62 rfl (lv_at hl 1 rfl) ?_
      obtain ⟨v1, iv1, ev1, h⟩ := rd_some h
      refine kAld hx hb hKK hP 15 rfl iv1 ev1 dX0_add_63 ?_
      refine lv_icmp_ge (tgt := 103) hx hb dX0_add_64 (by decide) (fun c2 => ?_) (fun c2 => ?_)
      · have h := ifp h c2
        refine lv_aload_n hx hb dX0_add_103 rfl (lv_at hl 0 rfl) ?_
        refine lv_dup hx hb dX0_add_104 rfl ?_
        refine va_get (D := D) (ci := 0) (v := .int k_count) (C := RX0) (T := TX0) (N := 13) hx hb hts hinX0 hown hKK.1 hP 0 rfl rfl 0 (by decide) lk45 (fun _ h9 => h9) rfl dX0_add_105 ?_
        refine lv_iconst (v := 1) hx hb dX0_add_108 (by decide) ?_
        refine lv_iadd hx hb dX0_add_109 ?_
        refine va_put (D := D) (ci := 0) (v := .int (k_count + 1)) (ty := .int) (C := RX0) (T := TX0) (N := 13) hx hb hts hinX0 tyX0 tyX0_ok nmX0 hown hKK.1 hP hD hS 0 rfl rfl 0 (by decide) lk45 (fun _ h9 => h9) rfl (by decide +kernel) rfl rfl (Nat.le_of_ble_eq_true rfl) dX0_add_110 (fun H locs hP hD hS => ?_)
        have hP : va_P D vwCl (W_k_m cI cM a_k a_k_staticType a_k_dynamicType a_k_target a_k_argumentCounts a_k_temporaryCounts a_k_keys a_k_kinds a_k_values a_k_temporaryKinds a_k_newKinds a_k_newValues a_m a_m_type a_m_name a_m_arity a_m_keys a_m_defaults (k_count + 1) k_frozenSet k_staticType k_dynamicType k_target k_argumentCounts k_temporaryCounts k_keys k_kinds k_values k_temporaryKinds k_newKinds k_newValues m_count m_type m_name m_arity m_keys m_defaults) H := hP
        have hD : va_D _ (W_k_m cI cM a_k a_k_staticType a_k_dynamicType a_k_target a_k_argumentCounts a_k_temporaryCounts a_k_keys a_k_kinds a_k_values a_k_temporaryKinds a_k_newKinds a_k_newValues a_m a_m_type a_m_name a_m_arity a_m_keys a_m_defaults (k_count + 1) k_frozenSet k_staticType k_dynamicType k_target k_argumentCounts k_temporaryCounts k_keys k_kinds k_values k_temporaryKinds k_newKinds k_newValues m_count m_type m_name m_arity m_keys m_defaults) := hD
        refine lv_iload hx hb dX0_add_113 (lv_at hl 3 rfl) ?_
        simp only [Option.some.injEq, Prod.mk.injEq] at h
        obtain ⟨e0, e1, e2, e3, e4, e5, e6, e7, e8, e9⟩ := h
        exact kRetI hx hb hr hlk e0 (by rw [← hw1, ← e1, ← e2, ← e3, ← e4, ← e5, ← e6, ← e7, ← e8, ← e9]; exact hP) hS dX0_add_115
      · have h := ifn h c2
        refine lv_aload_n hx hb dX0_add_67 rfl (lv_at hl 0 rfl) ?_
        refine va_get (D := D) (ci := 0) (v := .ref a_k_keys) (C := RX0) (T := TX0) (N := 13) hx hb hts hinX0 hown hKK.1 hP 0 rfl rfl 7 (by decide) lk27 (fun _ h9 => h9) rfl dX0_add_68 ?_
        refine lv_iload hx hb dX0_add_71 (lv_at hl 3 rfl) ?_
        refine lv_iconst (v := 5) hx hb dX0_add_73 (by decide) ?_
        refine lv_imul hx hb dX0_add_74 ?_
        refine lv_iload hx hb dX0_add_75 (lv_at hl 4 rfl) ?_
        refine lv_iadd hx hb dX0_add_77 ?_
        refine lv_aload hx hb dX0_add_78 (lv_at hl 2 rfl) ?_
        refine lv_iload_n hx hb dX0_add_80 rfl (lv_at hl 1 rfl) ?_
        refine lv_iload hx hb dX0_add_81 (lv_at hl 4 rfl) ?_
        obtain ⟨v3, ev3, h⟩ := bn_some h
        have hs4 : va_P D vwCl (W_m cI cM a_m a_m_type a_m_name a_m_arity a_m_keys a_m_defaults m_count m_type m_name m_arity m_keys m_defaults) _ := blkP (Bs := [B_k cI cM a_k a_k_staticType a_k_dynamicType a_k_target a_k_argumentCounts a_k_temporaryCounts a_k_keys a_k_kinds a_k_values a_k_temporaryKinds a_k_newKinds a_k_newValues k_count k_frozenSet k_staticType k_dynamicType k_target k_argumentCounts k_temporaryCounts k_keys k_kinds k_values k_temporaryKinds k_newKinds k_newValues, B_m cI cM a_m a_m_type a_m_name a_m_arity a_m_keys a_m_defaults m_count m_type m_name m_arity m_keys m_defaults]) hP [1] (C0 := [B_m cI cM a_m a_m_type a_m_name a_m_arity a_m_keys a_m_defaults m_count m_type m_name m_arity m_keys m_defaults]) rfl rfl
        refine kV (As := [.int y3, .int y6]) (rest := [.int ((y5 * 5) + y6), .ref a_k_keys]) SS hKK (qX5_keyOf l D cI cM a_m a_m_type a_m_name a_m_arity a_m_keys a_m_defaults m_count m_type m_name m_arity m_keys m_defaults y3 y6 v3 ev3) cw73 hs4 0 5 rfl rfl rfl hl.1 rfl (Nat.le_of_ble_eq_true rfl) dX0_add_83 ⟨Nat.zero_le _, Nat.zero_le _⟩ ?_
        obtain ⟨g5, ig5, eg5, h⟩ := wr_some h
        refine kAst hx hb hKK hP hD hS 6 rfl ig5 eg5 dX0_add_86 (fun H locs hP hD hS => ?_)
        have hP : va_P D vwCl (W_k_m cI cM a_k a_k_staticType a_k_dynamicType a_k_target a_k_argumentCounts a_k_temporaryCounts a_k_keys a_k_kinds a_k_values a_k_temporaryKinds a_k_newKinds a_k_newValues a_m a_m_type a_m_name a_m_arity a_m_keys a_m_defaults k_count k_frozenSet k_staticType k_dynamicType k_target k_argumentCounts k_temporaryCounts g5 k_kinds k_values k_temporaryKinds k_newKinds k_newValues m_count m_type m_name m_arity m_keys m_defaults) H := hP
        have hD : va_D _ (W_k_m cI cM a_k a_k_staticType a_k_dynamicType a_k_target a_k_argumentCounts a_k_temporaryCounts a_k_keys a_k_kinds a_k_values a_k_temporaryKinds a_k_newKinds a_k_newValues a_m a_m_type a_m_name a_m_arity a_m_keys a_m_defaults k_count k_frozenSet k_staticType k_dynamicType k_target k_argumentCounts k_temporaryCounts g5 k_kinds k_values k_temporaryKinds k_newKinds k_newValues m_count m_type m_name m_arity m_keys m_defaults) := hD
        refine lv_aload_n hx hb dX0_add_87 rfl (lv_at hl 0 rfl) ?_
        refine lv_iload hx hb dX0_add_88 (lv_at hl 3 rfl) ?_
        refine lv_iload hx hb dX0_add_90 (lv_at hl 4 rfl) ?_
        refine lv_iconst (v := 0) hx hb dX0_add_92 (by decide) ?_
        refine lv_iconst (v := 0) hx hb dX0_add_93 (by decide) ?_
        obtain ⟨g6, g7, eg6, h⟩ := bn2_some h
        refine kVB (As := [.int y5, .int y6, .int 0, .int 0]) (rest := []) (st1 := []) (Bs := [B_k cI cM a_k a_k_staticType a_k_dynamicType a_k_target a_k_argumentCounts a_k_temporaryCounts a_k_keys a_k_kinds a_k_values a_k_temporaryKinds a_k_newKinds a_k_newValues k_count k_frozenSet k_staticType k_dynamicType k_target k_argumentCounts k_temporaryCounts g5 k_kinds k_values k_temporaryKinds k_newKinds k_newValues, B_m cI cM a_m a_m_type a_m_name a_m_arity a_m_keys a_m_defaults m_count m_type m_name m_arity m_keys m_defaults]) (Bs1 := [B_k cI cM a_k a_k_staticType a_k_dynamicType a_k_target a_k_argumentCounts a_k_temporaryCounts a_k_keys a_k_kinds a_k_values a_k_temporaryKinds a_k_newKinds a_k_newValues k_count k_frozenSet k_staticType k_dynamicType k_target k_argumentCounts k_temporaryCounts g5 g6 g7 k_temporaryKinds k_newKinds k_newValues, B_m cI cM a_m a_m_type a_m_name a_m_arity a_m_keys a_m_defaults m_count m_type m_name m_arity m_keys m_defaults]) SS hKK (qX0_putArgument l D cI cM a_k a_k_staticType a_k_dynamicType a_k_target a_k_argumentCounts a_k_temporaryCounts a_k_keys a_k_kinds a_k_values a_k_temporaryKinds a_k_newKinds a_k_newValues k_count k_frozenSet k_staticType k_dynamicType k_target k_argumentCounts k_temporaryCounts g5 k_kinds k_values k_temporaryKinds k_newKinds k_newValues y5 y6 0 0 g6 g7 eg6) cw74 hP hD hS (isC := [0]) (isR := [1]) (C0 := [B_k cI cM a_k a_k_staticType a_k_dynamicType a_k_target a_k_argumentCounts a_k_temporaryCounts a_k_keys a_k_kinds a_k_values a_k_temporaryKinds a_k_newKinds a_k_newValues k_count k_frozenSet k_staticType k_dynamicType k_target k_argumentCounts k_temporaryCounts g5 k_kinds k_values k_temporaryKinds k_newKinds k_newValues]) (C1 := [B_k cI cM a_k a_k_staticType a_k_dynamicType a_k_target a_k_argumentCounts a_k_temporaryCounts a_k_keys a_k_kinds a_k_values a_k_temporaryKinds a_k_newKinds a_k_newValues k_count k_frozenSet k_staticType k_dynamicType k_target k_argumentCounts k_temporaryCounts g5 g6 g7 k_temporaryKinds k_newKinds k_newValues]) (Rr := [B_m cI cM a_m a_m_type a_m_name a_m_arity a_m_keys a_m_defaults m_count m_type m_name m_arity m_keys m_defaults]) (show (List.range 2).Perm ([0] ++ [1]) by decide) rfl rfl rfl rfl rfl rfl rfl rfl 0 0 rfl rfl rfl hl.1 rfl (Nat.le_of_ble_eq_true rfl) dX0_add_94 ⟨Nat.zero_le _, Nat.zero_le _⟩ rfl (fun H locs hP hD hS => ?_)
        have hP : va_P D vwCl (W_k_m cI cM a_k a_k_staticType a_k_dynamicType a_k_target a_k_argumentCounts a_k_temporaryCounts a_k_keys a_k_kinds a_k_values a_k_temporaryKinds a_k_newKinds a_k_newValues a_m a_m_type a_m_name a_m_arity a_m_keys a_m_defaults k_count k_frozenSet k_staticType k_dynamicType k_target k_argumentCounts k_temporaryCounts g5 g6 g7 k_temporaryKinds k_newKinds k_newValues m_count m_type m_name m_arity m_keys m_defaults) H := hP
        have hD : va_D _ (W_k_m cI cM a_k a_k_staticType a_k_dynamicType a_k_target a_k_argumentCounts a_k_temporaryCounts a_k_keys a_k_kinds a_k_values a_k_temporaryKinds a_k_newKinds a_k_newValues a_m a_m_type a_m_name a_m_arity a_m_keys a_m_defaults k_count k_frozenSet k_staticType k_dynamicType k_target k_argumentCounts k_temporaryCounts g5 g6 g7 k_temporaryKinds k_newKinds k_newValues m_count m_type m_name m_arity m_keys m_defaults) := hD
        refine lv_iinc (v := y6 + 1) (lv' := [(6, .int (y6 + 1)), (0, .ref a_k), (3, .int y3), (4, .ref a_m), (5, .int y5)]) hx hb dX0_add_97 hl (k := 4) rfl rfl (by decide) rfl (fun ls hl => ?_)
        refine lv_goto (tgt := 55) hx hb dX0_add_100 (by decide) ?_
        exact ih H locs k_count k_staticType k_dynamicType k_target k_argumentCounts k_temporaryCounts g5 g6 g7 y3 y5 (y6 + 1) h hP hD hS ls (lv_sub (l' := [(0, .ref a_k), (3, .int y3), (4, .ref a_m), (5, .int y5), (6, .int (y6 + 1))]) hl [1, 2, 3, 4, 0] rfl)
  unfold fX0_add at h
  refine lv_aload_n hx hb dX0_add_0 rfl (lv_at hl 0 rfl) ?_
  refine va_get (D := D) (ci := 0) (v := .int k_count) (C := RX0) (T := TX0) (N := 13) hx hb hts hinX0 hown hKK.1 hP 0 rfl rfl 0 (by decide) lk45 (fun _ h9 => h9) rfl dX0_add_1 ?_
  refine lv_istore (lv' := [(5, .int k_count), (0, .ref a_k), (1, .int x1), (2, .int x2), (3, .int x3), (4, .ref a_m)]) hx hb dX0_add_4 hl (by decide) rfl (fun ls hl => ?_)
  refine lv_aload_n hx hb dX0_add_6 rfl (lv_at hl 1 rfl) ?_
  refine va_get (D := D) (ci := 0) (v := .ref a_k_staticType) (C := RX0) (T := TX0) (N := 13) hx hb hts hinX0 hown hKK.1 hP 0 rfl rfl 2 (by decide) lk9 (fun _ h9 => h9) rfl dX0_add_7 ?_
  refine lv_iload hx hb dX0_add_10 (lv_at hl 0 rfl) ?_
  refine lv_iload_n hx hb dX0_add_12 rfl (lv_at hl 2 rfl) ?_
  obtain ⟨g1, ig1, eg1, h⟩ := wr_some h
  refine kAst hx hb hKK hP hD hS 1 rfl ig1 eg1 dX0_add_13 (fun H locs hP hD hS => ?_)
  have hP : va_P D vwCl (W_k_m cI cM a_k a_k_staticType a_k_dynamicType a_k_target a_k_argumentCounts a_k_temporaryCounts a_k_keys a_k_kinds a_k_values a_k_temporaryKinds a_k_newKinds a_k_newValues a_m a_m_type a_m_name a_m_arity a_m_keys a_m_defaults k_count k_frozenSet g1 k_dynamicType k_target k_argumentCounts k_temporaryCounts k_keys k_kinds k_values k_temporaryKinds k_newKinds k_newValues m_count m_type m_name m_arity m_keys m_defaults) H := hP
  have hD : va_D _ (W_k_m cI cM a_k a_k_staticType a_k_dynamicType a_k_target a_k_argumentCounts a_k_temporaryCounts a_k_keys a_k_kinds a_k_values a_k_temporaryKinds a_k_newKinds a_k_newValues a_m a_m_type a_m_name a_m_arity a_m_keys a_m_defaults k_count k_frozenSet g1 k_dynamicType k_target k_argumentCounts k_temporaryCounts k_keys k_kinds k_values k_temporaryKinds k_newKinds k_newValues m_count m_type m_name m_arity m_keys m_defaults) := hD
  refine lv_aload_n hx hb dX0_add_14 rfl (lv_at hl 1 rfl) ?_
  refine va_get (D := D) (ci := 0) (v := .ref a_k_dynamicType) (C := RX0) (T := TX0) (N := 13) hx hb hts hinX0 hown hKK.1 hP 0 rfl rfl 3 (by decide) lk15 (fun _ h9 => h9) rfl dX0_add_15 ?_
  refine lv_iload hx hb dX0_add_18 (lv_at hl 0 rfl) ?_
  refine lv_iload_n hx hb dX0_add_20 rfl (lv_at hl 3 rfl) ?_
  obtain ⟨g2, ig2, eg2, h⟩ := wr_some h
  refine kAst hx hb hKK hP hD hS 2 rfl ig2 eg2 dX0_add_21 (fun H locs hP hD hS => ?_)
  have hP : va_P D vwCl (W_k_m cI cM a_k a_k_staticType a_k_dynamicType a_k_target a_k_argumentCounts a_k_temporaryCounts a_k_keys a_k_kinds a_k_values a_k_temporaryKinds a_k_newKinds a_k_newValues a_m a_m_type a_m_name a_m_arity a_m_keys a_m_defaults k_count k_frozenSet g1 g2 k_target k_argumentCounts k_temporaryCounts k_keys k_kinds k_values k_temporaryKinds k_newKinds k_newValues m_count m_type m_name m_arity m_keys m_defaults) H := hP
  have hD : va_D _ (W_k_m cI cM a_k a_k_staticType a_k_dynamicType a_k_target a_k_argumentCounts a_k_temporaryCounts a_k_keys a_k_kinds a_k_values a_k_temporaryKinds a_k_newKinds a_k_newValues a_m a_m_type a_m_name a_m_arity a_m_keys a_m_defaults k_count k_frozenSet g1 g2 k_target k_argumentCounts k_temporaryCounts k_keys k_kinds k_values k_temporaryKinds k_newKinds k_newValues m_count m_type m_name m_arity m_keys m_defaults) := hD
  refine lv_aload_n hx hb dX0_add_22 rfl (lv_at hl 1 rfl) ?_
  refine va_get (D := D) (ci := 0) (v := .ref a_k_target) (C := RX0) (T := TX0) (N := 13) hx hb hts hinX0 hown hKK.1 hP 0 rfl rfl 4 (by decide) lk18 (fun _ h9 => h9) rfl dX0_add_23 ?_
  refine lv_iload hx hb dX0_add_26 (lv_at hl 0 rfl) ?_
  refine lv_iload_n hx hb dX0_add_28 rfl (lv_at hl 4 rfl) ?_
  obtain ⟨g3, ig3, eg3, h⟩ := wr_some h
  refine kAst hx hb hKK hP hD hS 3 rfl ig3 eg3 dX0_add_29 (fun H locs hP hD hS => ?_)
  have hP : va_P D vwCl (W_k_m cI cM a_k a_k_staticType a_k_dynamicType a_k_target a_k_argumentCounts a_k_temporaryCounts a_k_keys a_k_kinds a_k_values a_k_temporaryKinds a_k_newKinds a_k_newValues a_m a_m_type a_m_name a_m_arity a_m_keys a_m_defaults k_count k_frozenSet g1 g2 g3 k_argumentCounts k_temporaryCounts k_keys k_kinds k_values k_temporaryKinds k_newKinds k_newValues m_count m_type m_name m_arity m_keys m_defaults) H := hP
  have hD : va_D _ (W_k_m cI cM a_k a_k_staticType a_k_dynamicType a_k_target a_k_argumentCounts a_k_temporaryCounts a_k_keys a_k_kinds a_k_values a_k_temporaryKinds a_k_newKinds a_k_newValues a_m a_m_type a_m_name a_m_arity a_m_keys a_m_defaults k_count k_frozenSet g1 g2 g3 k_argumentCounts k_temporaryCounts k_keys k_kinds k_values k_temporaryKinds k_newKinds k_newValues m_count m_type m_name m_arity m_keys m_defaults) := hD
  refine lv_aload_n hx hb dX0_add_30 rfl (lv_at hl 1 rfl) ?_
  refine va_get (D := D) (ci := 0) (v := .ref a_k_argumentCounts) (C := RX0) (T := TX0) (N := 13) hx hb hts hinX0 hown hKK.1 hP 0 rfl rfl 5 (by decide) lk21 (fun _ h9 => h9) rfl dX0_add_31 ?_
  refine lv_iload hx hb dX0_add_34 (lv_at hl 0 rfl) ?_
  refine lv_aload hx hb dX0_add_36 (lv_at hl 5 rfl) ?_
  refine va_get (D := D) (ci := 5) (v := .ref a_m_arity) (C := RX5) (T := TX5) (N := 6) hx hb hts hinX5 hown hKK.1 hP 12 rfl rfl 3 (by decide) lk64 (fun _ h9 => h9) rfl dX0_add_38 ?_
  refine lv_iload_n hx hb dX0_add_41 rfl (lv_at hl 4 rfl) ?_
  obtain ⟨v4, iv4, ev4, h⟩ := rd_some h
  refine kAld hx hb hKK hP 15 rfl iv4 ev4 dX0_add_42 ?_
  obtain ⟨g5, ig5, eg5, h⟩ := wr_some h
  refine kAst hx hb hKK hP hD hS 4 rfl ig5 eg5 dX0_add_43 (fun H locs hP hD hS => ?_)
  have hP : va_P D vwCl (W_k_m cI cM a_k a_k_staticType a_k_dynamicType a_k_target a_k_argumentCounts a_k_temporaryCounts a_k_keys a_k_kinds a_k_values a_k_temporaryKinds a_k_newKinds a_k_newValues a_m a_m_type a_m_name a_m_arity a_m_keys a_m_defaults k_count k_frozenSet g1 g2 g3 g5 k_temporaryCounts k_keys k_kinds k_values k_temporaryKinds k_newKinds k_newValues m_count m_type m_name m_arity m_keys m_defaults) H := hP
  have hD : va_D _ (W_k_m cI cM a_k a_k_staticType a_k_dynamicType a_k_target a_k_argumentCounts a_k_temporaryCounts a_k_keys a_k_kinds a_k_values a_k_temporaryKinds a_k_newKinds a_k_newValues a_m a_m_type a_m_name a_m_arity a_m_keys a_m_defaults k_count k_frozenSet g1 g2 g3 g5 k_temporaryCounts k_keys k_kinds k_values k_temporaryKinds k_newKinds k_newValues m_count m_type m_name m_arity m_keys m_defaults) := hD
  refine lv_aload_n hx hb dX0_add_44 rfl (lv_at hl 1 rfl) ?_
  refine va_get (D := D) (ci := 0) (v := .ref a_k_temporaryCounts) (C := RX0) (T := TX0) (N := 13) hx hb hts hinX0 hown hKK.1 hP 0 rfl rfl 6 (by decide) lk24 (fun _ h9 => h9) rfl dX0_add_45 ?_
  refine lv_iload hx hb dX0_add_48 (lv_at hl 0 rfl) ?_
  refine lv_iconst (v := 0) hx hb dX0_add_50 (by decide) ?_
  obtain ⟨g6, ig6, eg6, h⟩ := wr_some h
  refine kAst hx hb hKK hP hD hS 5 rfl ig6 eg6 dX0_add_51 (fun H locs hP hD hS => ?_)
  have hP : va_P D vwCl (W_k_m cI cM a_k a_k_staticType a_k_dynamicType a_k_target a_k_argumentCounts a_k_temporaryCounts a_k_keys a_k_kinds a_k_values a_k_temporaryKinds a_k_newKinds a_k_newValues a_m a_m_type a_m_name a_m_arity a_m_keys a_m_defaults k_count k_frozenSet g1 g2 g3 g5 g6 k_keys k_kinds k_values k_temporaryKinds k_newKinds k_newValues m_count m_type m_name m_arity m_keys m_defaults) H := hP
  have hD : va_D _ (W_k_m cI cM a_k a_k_staticType a_k_dynamicType a_k_target a_k_argumentCounts a_k_temporaryCounts a_k_keys a_k_kinds a_k_values a_k_temporaryKinds a_k_newKinds a_k_newValues a_m a_m_type a_m_name a_m_arity a_m_keys a_m_defaults k_count k_frozenSet g1 g2 g3 g5 g6 k_keys k_kinds k_values k_temporaryKinds k_newKinds k_newValues m_count m_type m_name m_arity m_keys m_defaults) := hD
  refine lv_iconst (v := 0) hx hb dX0_add_52 (by decide) ?_
  refine lv_istore (lv' := [(6, .int 0), (5, .int k_count), (0, .ref a_k), (1, .int x1), (2, .int x2), (3, .int x3), (4, .ref a_m)]) hx hb dX0_add_53 hl (by decide) rfl (fun ls hl => ?_)
  exact F55 5000 H locs k_count g1 g2 g3 g5 g6 k_keys k_kinds k_values x3 k_count 0 h hP hD hS ls (lv_sub (l' := [(0, .ref a_k), (3, .int x3), (4, .ref a_m), (5, .int k_count), (6, .int 0)]) hl [2, 5, 6, 1, 0] rfl)
set_option maxHeartbeats 8000000 in
set_option maxRecDepth 100000 in
theorem qX0_hoist (l : Launch) (D : va_G) (cI cM : ClassId) (a_k a_k_staticType a_k_dynamicType a_k_target a_k_argumentCounts a_k_temporaryCounts a_k_keys a_k_kinds a_k_values a_k_temporaryKinds a_k_newKinds a_k_newValues : Nat) (k_count : Int32) (k_frozenSet : Int32) (k_staticType : Nat → Int32) (k_dynamicType : Nat → Int32) (k_target : Nat → Int32) (k_argumentCounts : Nat → Int32) (k_temporaryCounts : Nat → Int32) (k_keys : Nat → Int32) (k_kinds : Nat → Int32) (k_values : Nat → Int32) (k_temporaryKinds : Nat → Int32) (k_newKinds : Nat → Int32) (k_newValues : Nat → Int32) (x1 : Int32) (x2 : Int32) (r_k_temporaryCounts : Nat → Int32) (r_k_kinds : Nat → Int32) (r_k_values : Nat → Int32) (r_k_temporaryKinds : Nat → Int32) (h : fX0_hoist k_argumentCounts k_temporaryCounts k_kinds k_values k_temporaryKinds x1 x2 = some (r_k_temporaryCounts, r_k_kinds, r_k_values, r_k_temporaryKinds)) : IM l yX0_hoist wsX0_hoist rmX0_hoist D cI cM [.ref a_k, .int x1, .int x2] (W_k cI cM a_k a_k_staticType a_k_dynamicType a_k_target a_k_argumentCounts a_k_temporaryCounts a_k_keys a_k_kinds a_k_values a_k_temporaryKinds a_k_newKinds a_k_newValues k_count k_frozenSet k_staticType k_dynamicType k_target k_argumentCounts k_temporaryCounts k_keys k_kinds k_values k_temporaryKinds k_newKinds k_newValues) (W_k cI cM a_k a_k_staticType a_k_dynamicType a_k_target a_k_argumentCounts a_k_temporaryCounts a_k_keys a_k_kinds a_k_values a_k_temporaryKinds a_k_newKinds a_k_newValues k_count k_frozenSet k_staticType k_dynamicType k_target k_argumentCounts r_k_temporaryCounts k_keys r_k_kinds r_k_values r_k_temporaryKinds k_newKinds k_newValues) none := by
  refine IM.of (cc := cX0_hoist) (maxL := 5) (ret := none) (by decide) rfl (Nat.le_of_ble_eq_true rfl) ?_
  intro p e s m below meth c ls hx hb hr hml hown hts hlk hKK hP hD hS hl
  have hown : s.vm.findClass RX0 = some m.cls := hown
  have hl : lv_has ls 5 [(0, .ref a_k), (1, .int x1), (2, .int x2)] := hl
  generalize hav : ([.ref a_k, .int x1, .int x2] : List Value) = av at hts ⊢
  generalize hw1 : W_k cI cM a_k a_k_staticType a_k_dynamicType a_k_target a_k_argumentCounts a_k_temporaryCounts a_k_keys a_k_kinds a_k_values a_k_temporaryKinds a_k_newKinds a_k_newValues k_count k_frozenSet k_staticType k_dynamicType k_target k_argumentCounts r_k_temporaryCounts k_keys r_k_kinds r_k_values r_k_temporaryKinds k_newKinds k_newValues = w1
  generalize hw0 : W_k cI cM a_k a_k_staticType a_k_dynamicType a_k_target a_k_argumentCounts a_k_temporaryCounts a_k_keys a_k_kinds a_k_values a_k_temporaryKinds a_k_newKinds a_k_newValues k_count k_frozenSet k_staticType k_dynamicType k_target k_argumentCounts k_temporaryCounts k_keys k_kinds k_values k_temporaryKinds k_newKinds k_newValues = w0 at hD hS ⊢
  have hP : va_P D vwCl (W_k cI cM a_k a_k_staticType a_k_dynamicType a_k_target a_k_argumentCounts a_k_temporaryCounts a_k_keys a_k_kinds a_k_values a_k_temporaryKinds a_k_newKinds a_k_newValues k_count k_frozenSet k_staticType k_dynamicType k_target k_argumentCounts k_temporaryCounts k_keys k_kinds k_values k_temporaryKinds k_newKinds k_newValues) s.heap := hP
  have hD : va_D (fun q => q ∈ w0.map (·.1)) (W_k cI cM a_k a_k_staticType a_k_dynamicType a_k_target a_k_argumentCounts a_k_temporaryCounts a_k_keys a_k_kinds a_k_values a_k_temporaryKinds a_k_newKinds a_k_newValues k_count k_frozenSet k_staticType k_dynamicType k_target k_argumentCounts k_temporaryCounts k_keys k_kinds k_values k_temporaryKinds k_newKinds k_newValues) := by rw [hw0]; exact hD
  have SS : CallFix p m c cX0_hoist 5 s av.toArray wsX0_hoist RX0 := ⟨hx, hb, hml, hown, hts⟩
  have hinX0 : ∀ w ∈ u_ws RX0 TX0 13, w ∈ wsX0_hoist := by decide +kernel
  have lk21 := hts (.fieldLink RX0 21 "SignatureChanger$Calls" "argumentCounts" "[I") (List.mem_of_getElem? (i := 1) rfl)
  have lk24 := hts (.fieldLink RX0 24 "SignatureChanger$Calls" "temporaryCounts" "[I") (List.mem_of_getElem? (i := 2) rfl)
  have lk36 := hts (.fieldLink RX0 36 "SignatureChanger$Calls" "temporaryKinds" "[I") (List.mem_of_getElem? (i := 3) rfl)
  have cw56 : va_CN rmX0_hoist s av.toArray RX0 56 yX8_contains RX8 cX8_contains 2 (some .boolean) wsX8_contains rmX8_contains 0 0 2 ∧ (Cond.static yX8_contains).before av.toArray s = true ∧ True := ⟨va_cnB 2 hts gX0_hoist_X8_contains_n56 rfl rfl rfl (hKK.2.at 15 rfl) (hts (.initialized RX8) (List.mem_of_getElem? (i := 5) rfl)) (by decide +kernel) ⟨Nat.le_of_ble_eq_true rfl, Nat.le_of_ble_eq_true rfl⟩, hts (.static yX8_contains) (List.mem_of_getElem? (i := 4) rfl), trivial⟩
  have cw74 : CallW rmX0_hoist s av.toArray RX0 RX0 74 yX0_putArgument cX0_putArgument 5 none wsX0_putArgument rmX0_putArgument 0 0 4 := cwV 4 hts gX0_hoist_X0_putArgument rfl rfl rfl (by decide +kernel) ⟨Nat.le_of_ble_eq_true rfl, Nat.le_of_ble_eq_true rfl⟩
  have cw86 : CallW rmX0_hoist s av.toArray RX0 RX0 86 yX0_kindOf cX0_kindOf 3 (some .int) wsX0_kindOf rmX0_kindOf 0 0 2 := cwV 2 hts gX0_hoist_X0_kindOf rfl rfl rfl (by decide +kernel) ⟨Nat.le_of_ble_eq_true rfl, Nat.le_of_ble_eq_true rfl⟩
  have F2 : ∀ (n : Nat) (H : Heap) (locs : List Loc) (k_temporaryCounts : Nat → Int32) (k_kinds : Nat → Int32) (k_values : Nat → Int32) (k_temporaryKinds : Nat → Int32) (y1 : Int32) (y2 : Int32) (y3 : Int32), lX0_hoist_2 k_argumentCounts n k_temporaryCounts k_kinds k_values k_temporaryKinds y1 y2 y3 = some (r_k_temporaryCounts, r_k_kinds, r_k_values, r_k_temporaryKinds) → va_P D vwCl (W_k cI cM a_k a_k_staticType a_k_dynamicType a_k_target a_k_argumentCounts a_k_temporaryCounts a_k_keys a_k_kinds a_k_values a_k_temporaryKinds a_k_newKinds a_k_newValues k_count k_frozenSet k_staticType k_dynamicType k_target k_argumentCounts k_temporaryCounts k_keys k_kinds k_values k_temporaryKinds k_newKinds k_newValues) H → va_D (fun q => q ∈ (w0).map (·.1)) (W_k cI cM a_k a_k_staticType a_k_dynamicType a_k_target a_k_argumentCounts a_k_temporaryCounts a_k_keys a_k_kinds a_k_values a_k_temporaryKinds a_k_newKinds a_k_newValues k_count k_frozenSet k_staticType k_dynamicType k_target k_argumentCounts k_temporaryCounts k_keys k_kinds k_values k_temporaryKinds k_newKinds k_newValues) → va_S (fun q => q ∈ (w0).map (·.1)) s.heap H locs → ∀ ls : Array Slot, lv_has ls 5 [(0, .ref a_k), (1, .int y1), (2, .int y2), (3, .int y3)] → WI p l e rmX0_hoist s m av below meth c D w0 w1 none H locs 2 ls [] := by
    intro n
    induction n with
    | zero => intro H locs k_temporaryCounts k_kinds k_values k_temporaryKinds y1 y2 y3 h; exact no_some h
    | succ n ih =>
      intro H locs k_temporaryCounts k_kinds k_values k_temporaryKinds y1 y2 y3 h hP hD hS ls hl
      rw [lX0_hoist_2_s] at h
      refine lv_iload_n hx hb dX0_hoist_2 rfl (lv_at hl 3 rfl) ?_
      refine lv_aload_n hx hb dX0_hoist_3 rfl (lv_at hl 0 rfl) ?_
      refine va_get (D := D) (ci := 0) (v := .ref a_k_argumentCounts) (C := RX0) (T := TX0) (N := 13) hx hb hts hinX0 hown hKK.1 hP 0 rfl rfl 5 (by decide) lk21 (fun _ h9 => h9) rfl dX0_hoist_4 ?_
      refine lv_iload_n hx hb dX0_hoist_7 rfl (lv_at hl 1 rfl) ?_
      obtain ⟨v1, iv1, ev1, h⟩ := rd_some h
      refine kAld hx hb hKK hP 4 rfl iv1 ev1 dX0_hoist_8 ?_
      refine lv_icmp_ge (tgt := 71) hx hb dX0_hoist_9 (by decide) (fun c2 => ?_) (fun c2 => ?_)
      · have h := ifp h c2
        simp only [Option.some.injEq, Prod.mk.injEq] at h
        obtain ⟨e0, e1, e2, e3⟩ := h
        exact kRetV hx hb hr hlk (by rw [← hw1, ← e0, ← e1, ← e2, ← e3]; exact hP) hS dX0_hoist_71
      · have h := ifn h c2
        refine lv_iload_n hx hb dX0_hoist_12 rfl (lv_at hl 2 rfl) ?_
        refine lv_iload_n hx hb dX0_hoist_13 rfl (lv_at hl 3 rfl) ?_
        obtain ⟨v3, ev3, h⟩ := bn_some h
        refine kSN (As := [.int y2, .int y3]) (rest := []) SS hKK (qX8_contains l D cI cM y2 y3 v3 ev3) cw56 va_P_nil rfl hl.1 rfl (Nat.le_of_ble_eq_true rfl) dX0_hoist_14 ⟨Nat.zero_le _, Nat.zero_le _⟩ ?_
        refine lv_if_eq (tgt := 65) hx hb dX0_hoist_17 (by decide) (fun c4 => ?_) (fun c4 => ?_)
        · have h := ifp h c4
          refine lv_iinc (v := y3 + 1) (lv' := [(3, .int (y3 + 1)), (0, .ref a_k), (1, .int y1), (2, .int y2)]) hx hb dX0_hoist_65 hl (k := 3) rfl rfl (by decide) rfl (fun ls hl => ?_)
          refine lv_goto (tgt := 2) hx hb dX0_hoist_68 (by decide) ?_
          exact ih H locs k_temporaryCounts k_kinds k_values k_temporaryKinds y1 y2 (y3 + 1) h hP hD hS ls (lv_sub (l' := [(0, .ref a_k), (1, .int y1), (2, .int y2), (3, .int (y3 + 1))]) hl [1, 2, 3, 0] rfl)
        · have h := ifn h c4
          refine lv_aload_n hx hb dX0_hoist_20 rfl (lv_at hl 0 rfl) ?_
          refine va_get (D := D) (ci := 0) (v := .ref a_k_temporaryCounts) (C := RX0) (T := TX0) (N := 13) hx hb hts hinX0 hown hKK.1 hP 0 rfl rfl 6 (by decide) lk24 (fun _ h9 => h9) rfl dX0_hoist_21 ?_
          refine lv_iload_n hx hb dX0_hoist_24 rfl (lv_at hl 1 rfl) ?_
          obtain ⟨v5, iv5, ev5, h⟩ := rd_some h
          refine kAld hx hb hKK hP 5 rfl iv5 ev5 dX0_hoist_25 ?_
          refine lv_istore (lv' := [(4, .int v5), (0, .ref a_k), (1, .int y1), (2, .int y2), (3, .int y3)]) hx hb dX0_hoist_26 hl (by decide) rfl (fun ls hl => ?_)
          refine lv_aload_n hx hb dX0_hoist_28 rfl (lv_at hl 1 rfl) ?_
          refine va_get (D := D) (ci := 0) (v := .ref a_k_temporaryKinds) (C := RX0) (T := TX0) (N := 13) hx hb hts hinX0 hown hKK.1 hP 0 rfl rfl 10 (by decide) lk36 (fun _ h9 => h9) rfl dX0_hoist_29 ?_
          refine lv_iload_n hx hb dX0_hoist_32 rfl (lv_at hl 2 rfl) ?_
          refine lv_bipush (v := 8) hx hb dX0_hoist_33 (by decide) ?_
          refine lv_imul hx hb dX0_hoist_35 ?_
          refine lv_iload hx hb dX0_hoist_36 (lv_at hl 0 rfl) ?_
          refine lv_iadd hx hb dX0_hoist_38 ?_
          refine lv_aload_n hx hb dX0_hoist_39 rfl (lv_at hl 1 rfl) ?_
          refine lv_iload_n hx hb dX0_hoist_40 rfl (lv_at hl 2 rfl) ?_
          refine lv_iload_n hx hb dX0_hoist_41 rfl (lv_at hl 4 rfl) ?_
          obtain ⟨v6, ev6, h⟩ := bn_some h
          have hs7 : va_P D vwCl (W_k cI cM a_k a_k_staticType a_k_dynamicType a_k_target a_k_argumentCounts a_k_temporaryCounts a_k_keys a_k_kinds a_k_values a_k_temporaryKinds a_k_newKinds a_k_newValues k_count k_frozenSet k_staticType k_dynamicType k_target k_argumentCounts k_temporaryCounts k_keys k_kinds k_values k_temporaryKinds k_newKinds k_newValues) _ := hP.sub (ws' := W_k cI cM a_k a_k_staticType a_k_dynamicType a_k_target a_k_argumentCounts a_k_temporaryCounts a_k_keys a_k_kinds a_k_values a_k_temporaryKinds a_k_newKinds a_k_newValues k_count k_frozenSet k_staticType k_dynamicType k_target k_argumentCounts k_temporaryCounts k_keys k_kinds k_values k_temporaryKinds k_newKinds k_newValues) [0, 1, 2, 3, 4, 5, 6, 7, 8, 9, 10, 11] rfl
          refine kV (As := [.int y1, .int y3]) (rest := [.int ((y1 * 8) + v5), .ref a_k_temporaryKinds]) SS hKK (qX0_kindOf l D cI cM a_k a_k_staticType a_k_dynamicType a_k_target a_k_argumentCounts a_k_temporaryCounts a_k_keys a_k_kinds a_k_values a_k_temporaryKinds a_k_newKinds a_k_newValues k_count k_frozenSet k_staticType k_dynamicType k_target k_argumentCounts k_temporaryCounts k_keys k_kinds k_values k_temporaryKinds k_newKinds k_newValues y1 y3 v6 ev6) cw86 hs7 0 0 rfl rfl rfl hl.1 rfl (Nat.le_of_ble_eq_true rfl) dX0_hoist_42 ⟨Nat.zero_le _, Nat.zero_le _⟩ ?_
          obtain ⟨g8, ig8, eg8, h⟩ := wr_some h
          refine kAst hx hb hKK hP hD hS 9 rfl ig8 eg8 dX0_hoist_45 (fun H locs hP hD hS => ?_)
          have hP : va_P D vwCl (W_k cI cM a_k a_k_staticType a_k_dynamicType a_k_target a_k_argumentCounts a_k_temporaryCounts a_k_keys a_k_kinds a_k_values a_k_temporaryKinds a_k_newKinds a_k_newValues k_count k_frozenSet k_staticType k_dynamicType k_target k_argumentCounts k_temporaryCounts k_keys k_kinds k_values g8 k_newKinds k_newValues) H := hP
          have hD : va_D _ (W_k cI cM a_k a_k_staticType a_k_dynamicType a_k_target a_k_argumentCounts a_k_temporaryCounts a_k_keys a_k_kinds a_k_values a_k_temporaryKinds a_k_newKinds a_k_newValues k_count k_frozenSet k_staticType k_dynamicType k_target k_argumentCounts k_temporaryCounts k_keys k_kinds k_values g8 k_newKinds k_newValues) := hD
          refine lv_aload_n hx hb dX0_hoist_46 rfl (lv_at hl 1 rfl) ?_
          refine lv_iload_n hx hb dX0_hoist_47 rfl (lv_at hl 2 rfl) ?_
          refine lv_iload_n hx hb dX0_hoist_48 rfl (lv_at hl 4 rfl) ?_
          refine lv_iconst (v := 3) hx hb dX0_hoist_49 (by decide) ?_
          refine lv_iload hx hb dX0_hoist_50 (lv_at hl 0 rfl) ?_
          obtain ⟨g9, g10, eg9, h⟩ := bn2_some h
          refine kVI (As := [.int y1, .int y3, .int 3, .int v5]) (rest := []) (st1 := []) SS hKK (qX0_putArgument l D cI cM a_k a_k_staticType a_k_dynamicType a_k_target a_k_argumentCounts a_k_temporaryCounts a_k_keys a_k_kinds a_k_values a_k_temporaryKinds a_k_newKinds a_k_newValues k_count k_frozenSet k_staticType k_dynamicType k_target k_argumentCounts k_temporaryCounts k_keys k_kinds k_values g8 k_newKinds k_newValues y1 y3 3 v5 g9 g10 eg9) cw74 hP hD hS [0, 1, 2, 3, 4, 5, 6, 7, 8, 9, 10, 11] rfl rfl rfl rfl 0 0 rfl rfl rfl hl.1 rfl (Nat.le_of_ble_eq_true rfl) dX0_hoist_52 ⟨Nat.zero_le _, Nat.zero_le _⟩ rfl (fun H locs hP hD hS => ?_)
          have hP : va_P D vwCl (W_k cI cM a_k a_k_staticType a_k_dynamicType a_k_target a_k_argumentCounts a_k_temporaryCounts a_k_keys a_k_kinds a_k_values a_k_temporaryKinds a_k_newKinds a_k_newValues k_count k_frozenSet k_staticType k_dynamicType k_target k_argumentCounts k_temporaryCounts k_keys g9 g10 g8 k_newKinds k_newValues) H := hP
          have hD : va_D _ (W_k cI cM a_k a_k_staticType a_k_dynamicType a_k_target a_k_argumentCounts a_k_temporaryCounts a_k_keys a_k_kinds a_k_values a_k_temporaryKinds a_k_newKinds a_k_newValues k_count k_frozenSet k_staticType k_dynamicType k_target k_argumentCounts k_temporaryCounts k_keys g9 g10 g8 k_newKinds k_newValues) := hD
          refine lv_aload_n hx hb dX0_hoist_55 rfl (lv_at hl 1 rfl) ?_
          refine va_get (D := D) (ci := 0) (v := .ref a_k_temporaryCounts) (C := RX0) (T := TX0) (N := 13) hx hb hts hinX0 hown hKK.1 hP 0 rfl rfl 6 (by decide) lk24 (fun _ h9 => h9) rfl dX0_hoist_56 ?_
          refine lv_iload_n hx hb dX0_hoist_59 rfl (lv_at hl 2 rfl) ?_
          refine lv_dup2_11 hx hb dX0_hoist_60 rfl rfl ?_
          obtain ⟨v11, iv11, ev11, h⟩ := rd_some h
          refine kAld hx hb hKK hP 5 rfl iv11 ev11 dX0_hoist_61 ?_
          refine lv_iconst (v := 1) hx hb dX0_hoist_62 (by decide) ?_
          refine lv_iadd hx hb dX0_hoist_63 ?_
          obtain ⟨g12, ig12, eg12, h⟩ := wr_some h
          refine kAst hx hb hKK hP hD hS 5 rfl ig12 eg12 dX0_hoist_64 (fun H locs hP hD hS => ?_)
          have hP : va_P D vwCl (W_k cI cM a_k a_k_staticType a_k_dynamicType a_k_target a_k_argumentCounts a_k_temporaryCounts a_k_keys a_k_kinds a_k_values a_k_temporaryKinds a_k_newKinds a_k_newValues k_count k_frozenSet k_staticType k_dynamicType k_target k_argumentCounts g12 k_keys g9 g10 g8 k_newKinds k_newValues) H := hP
          have hD : va_D _ (W_k cI cM a_k a_k_staticType a_k_dynamicType a_k_target a_k_argumentCounts a_k_temporaryCounts a_k_keys a_k_kinds a_k_values a_k_temporaryKinds a_k_newKinds a_k_newValues k_count k_frozenSet k_staticType k_dynamicType k_target k_argumentCounts g12 k_keys g9 g10 g8 k_newKinds k_newValues) := hD
          refine lv_iinc (v := y3 + 1) (lv' := [(3, .int (y3 + 1)), (4, .int v5), (0, .ref a_k), (1, .int y1), (2, .int y2)]) hx hb dX0_hoist_65 hl (k := 4) rfl rfl (by decide) rfl (fun ls hl => ?_)
          refine lv_goto (tgt := 2) hx hb dX0_hoist_68 (by decide) ?_
          exact ih H locs g12 g9 g10 g8 y1 y2 (y3 + 1) h hP hD hS ls (lv_sub (l' := [(0, .ref a_k), (1, .int y1), (2, .int y2), (3, .int (y3 + 1))]) hl [2, 3, 4, 0] rfl)
  unfold fX0_hoist at h
  refine lv_iconst (v := 0) hx hb dX0_hoist_0 (by decide) ?_
  refine lv_istore_n (lv' := [(3, .int 0), (0, .ref a_k), (1, .int x1), (2, .int x2)]) hx hb dX0_hoist_1 rfl hl (by decide) rfl (fun ls hl => ?_)
  exact F2 5000 s.heap [] k_temporaryCounts k_kinds k_values k_temporaryKinds x1 x2 0 h hP hD hS ls (lv_sub (l' := [(0, .ref a_k), (1, .int x1), (2, .int x2), (3, .int 0)]) hl [1, 2, 3, 0] rfl)
set_option maxHeartbeats 8000000 in
set_option maxRecDepth 100000 in
theorem qX0_rearrange (l : Launch) (D : va_G) (cI cM : ClassId) (a_k a_k_staticType a_k_dynamicType a_k_target a_k_argumentCounts a_k_temporaryCounts a_k_keys a_k_kinds a_k_values a_k_temporaryKinds a_k_newKinds a_k_newValues a_d a_d_sources a_d_keys a_d_defaults : Nat) (k_count : Int32) (k_frozenSet : Int32) (k_staticType : Nat → Int32) (k_dynamicType : Nat → Int32) (k_target : Nat → Int32) (k_argumentCounts : Nat → Int32) (k_temporaryCounts : Nat → Int32) (k_keys : Nat → Int32) (k_kinds : Nat → Int32) (k_values : Nat → Int32) (k_temporaryKinds : Nat → Int32) (k_newKinds : Nat → Int32) (k_newValues : Nat → Int32) (d_open : Int32) (d_method : Int32) (d_family : Int32) (d_oldCount : Int32) (d_keptSet : Int32) (d_count : Int32) (d_sources : Nat → Int32) (d_keys : Nat → Int32) (d_defaults : Nat → Int32) (d_usedKeys : Int32) (x1 : Int32) (r_k_argumentCounts : Nat → Int32) (r_k_keys : Nat → Int32) (r_k_kinds : Nat → Int32) (r_k_values : Nat → Int32) (r_k_newKinds : Nat → Int32) (r_k_newValues : Nat → Int32) (h : fX0_rearrange k_argumentCounts k_keys k_kinds k_values k_newKinds k_newValues d_count d_sources d_keys d_defaults x1 = some (r_k_argumentCounts, r_k_keys, r_k_kinds, r_k_values, r_k_newKinds, r_k_newValues)) : IM l yX0_rearrange wsX0_rearrange rmX0_rearrange D cI cM [.ref a_k, .int x1, .ref a_d] (W_k_d cI cM a_k a_k_staticType a_k_dynamicType a_k_target a_k_argumentCounts a_k_temporaryCounts a_k_keys a_k_kinds a_k_values a_k_temporaryKinds a_k_newKinds a_k_newValues a_d a_d_sources a_d_keys a_d_defaults k_count k_frozenSet k_staticType k_dynamicType k_target k_argumentCounts k_temporaryCounts k_keys k_kinds k_values k_temporaryKinds k_newKinds k_newValues d_open d_method d_family d_oldCount d_keptSet d_count d_sources d_keys d_defaults d_usedKeys) (W_k_d cI cM a_k a_k_staticType a_k_dynamicType a_k_target a_k_argumentCounts a_k_temporaryCounts a_k_keys a_k_kinds a_k_values a_k_temporaryKinds a_k_newKinds a_k_newValues a_d a_d_sources a_d_keys a_d_defaults k_count k_frozenSet k_staticType k_dynamicType k_target r_k_argumentCounts k_temporaryCounts r_k_keys r_k_kinds r_k_values k_temporaryKinds r_k_newKinds r_k_newValues d_open d_method d_family d_oldCount d_keptSet d_count d_sources d_keys d_defaults d_usedKeys) none := by
  refine IM.of (cc := cX0_rearrange) (maxL := 5) (ret := none) (by decide) rfl (Nat.le_of_ble_eq_true rfl) ?_
  intro p e s m below meth c ls hx hb hr hml hown hts hlk hKK hP hD hS hl
  have hown : s.vm.findClass RX0 = some m.cls := hown
  have hl : lv_has ls 5 [(0, .ref a_k), (1, .int x1), (2, .ref a_d)] := hl
  generalize hav : ([.ref a_k, .int x1, .ref a_d] : List Value) = av at hts ⊢
  generalize hw1 : W_k_d cI cM a_k a_k_staticType a_k_dynamicType a_k_target a_k_argumentCounts a_k_temporaryCounts a_k_keys a_k_kinds a_k_values a_k_temporaryKinds a_k_newKinds a_k_newValues a_d a_d_sources a_d_keys a_d_defaults k_count k_frozenSet k_staticType k_dynamicType k_target r_k_argumentCounts k_temporaryCounts r_k_keys r_k_kinds r_k_values k_temporaryKinds r_k_newKinds r_k_newValues d_open d_method d_family d_oldCount d_keptSet d_count d_sources d_keys d_defaults d_usedKeys = w1
  generalize hw0 : W_k_d cI cM a_k a_k_staticType a_k_dynamicType a_k_target a_k_argumentCounts a_k_temporaryCounts a_k_keys a_k_kinds a_k_values a_k_temporaryKinds a_k_newKinds a_k_newValues a_d a_d_sources a_d_keys a_d_defaults k_count k_frozenSet k_staticType k_dynamicType k_target k_argumentCounts k_temporaryCounts k_keys k_kinds k_values k_temporaryKinds k_newKinds k_newValues d_open d_method d_family d_oldCount d_keptSet d_count d_sources d_keys d_defaults d_usedKeys = w0 at hD hS ⊢
  have hP : va_P D vwCl (W_k_d cI cM a_k a_k_staticType a_k_dynamicType a_k_target a_k_argumentCounts a_k_temporaryCounts a_k_keys a_k_kinds a_k_values a_k_temporaryKinds a_k_newKinds a_k_newValues a_d a_d_sources a_d_keys a_d_defaults k_count k_frozenSet k_staticType k_dynamicType k_target k_argumentCounts k_temporaryCounts k_keys k_kinds k_values k_temporaryKinds k_newKinds k_newValues d_open d_method d_family d_oldCount d_keptSet d_count d_sources d_keys d_defaults d_usedKeys) s.heap := hP
  have hD : va_D (fun q => q ∈ w0.map (·.1)) (W_k_d cI cM a_k a_k_staticType a_k_dynamicType a_k_target a_k_argumentCounts a_k_temporaryCounts a_k_keys a_k_kinds a_k_values a_k_temporaryKinds a_k_newKinds a_k_newValues a_d a_d_sources a_d_keys a_d_defaults k_count k_frozenSet k_staticType k_dynamicType k_target k_argumentCounts k_temporaryCounts k_keys k_kinds k_values k_temporaryKinds k_newKinds k_newValues d_open d_method d_family d_oldCount d_keptSet d_count d_sources d_keys d_defaults d_usedKeys) := by rw [hw0]; exact hD
  have SS : CallFix p m c cX0_rearrange 5 s av.toArray wsX0_rearrange RX0 := ⟨hx, hb, hml, hown, hts⟩
  have hinX0 : ∀ w ∈ u_ws RX0 TX0 13, w ∈ wsX0_rearrange := by decide +kernel
  have hinX1 : ∀ w ∈ u_ws RX1 TX1 10, w ∈ wsX0_rearrange := by decide +kernel
  have lk21 := hts (.fieldLink RX0 21 "SignatureChanger$Calls" "argumentCounts" "[I") (List.mem_of_getElem? (i := 8) rfl)
  have lk27 := hts (.fieldLink RX0 27 "SignatureChanger$Calls" "keys" "[I") (List.mem_of_getElem? (i := 6) rfl)
  have lk39 := hts (.fieldLink RX0 39 "SignatureChanger$Calls" "newKinds" "[I") (List.mem_of_getElem? (i := 3) rfl)
  have lk42 := hts (.fieldLink RX0 42 "SignatureChanger$Calls" "newValues" "[I") (List.mem_of_getElem? (i := 4) rfl)
  have lk89 := hts (.fieldLink RX0 89 "SignatureChanger$Draft" "count" "I") (List.mem_of_getElem? (i := 1) rfl)
  have lk92 := hts (.fieldLink RX0 92 "SignatureChanger$Draft" "sources" "[I") (List.mem_of_getElem? (i := 2) rfl)
  have lk95 := hts (.fieldLink RX0 95 "SignatureChanger$Draft" "defaults" "[I") (List.mem_of_getElem? (i := 5) rfl)
  have lk101 := hts (.fieldLink RX0 101 "SignatureChanger$Draft" "keys" "[I") (List.mem_of_getElem? (i := 7) rfl)
  have cw74 : CallW rmX0_rearrange s av.toArray RX0 RX0 74 yX0_putArgument cX0_putArgument 5 none wsX0_putArgument rmX0_putArgument 0 0 4 := cwV 4 hts gX0_rearrange_X0_putArgument rfl rfl rfl (by decide +kernel) ⟨Nat.le_of_ble_eq_true rfl, Nat.le_of_ble_eq_true rfl⟩
  have cw86 : CallW rmX0_rearrange s av.toArray RX0 RX0 86 yX0_kindOf cX0_kindOf 3 (some .int) wsX0_kindOf rmX0_kindOf 0 0 2 := cwV 2 hts gX0_rearrange_X0_kindOf rfl rfl rfl (by decide +kernel) ⟨Nat.le_of_ble_eq_true rfl, Nat.le_of_ble_eq_true rfl⟩
  have cw98 : CallW rmX0_rearrange s av.toArray RX0 RX0 98 yX0_valueOf cX0_valueOf 3 (some .int) wsX0_valueOf rmX0_valueOf 0 0 2 := cwV 2 hts gX0_rearrange_X0_valueOf rfl rfl rfl (by decide +kernel) ⟨Nat.le_of_ble_eq_true rfl, Nat.le_of_ble_eq_true rfl⟩
  have F77 : ∀ (n : Nat) (H : Heap) (locs : List Loc) (k_argumentCounts : Nat → Int32) (k_keys : Nat → Int32) (k_kinds : Nat → Int32) (k_values : Nat → Int32) (k_newKinds : Nat → Int32) (k_newValues : Nat → Int32) (y1 : Int32) (y3 : Int32), lX0_rearrange_77 d_count d_sources d_keys d_defaults n k_argumentCounts k_keys k_kinds k_values k_newKinds k_newValues y1 y3 = some (r_k_argumentCounts, r_k_keys, r_k_kinds, r_k_values, r_k_newKinds, r_k_newValues) → va_P D vwCl (W_k_d cI cM a_k a_k_staticType a_k_dynamicType a_k_target a_k_argumentCounts a_k_temporaryCounts a_k_keys a_k_kinds a_k_values a_k_temporaryKinds a_k_newKinds a_k_newValues a_d a_d_sources a_d_keys a_d_defaults k_count k_frozenSet k_staticType k_dynamicType k_target k_argumentCounts k_temporaryCounts k_keys k_kinds k_values k_temporaryKinds k_newKinds k_newValues d_open d_method d_family d_oldCount d_keptSet d_count d_sources d_keys d_defaults d_usedKeys) H → va_D (fun q => q ∈ (w0).map (·.1)) (W_k_d cI cM a_k a_k_staticType a_k_dynamicType a_k_target a_k_argumentCounts a_k_temporaryCounts a_k_keys a_k_kinds a_k_values a_k_temporaryKinds a_k_newKinds a_k_newValues a_d a_d_sources a_d_keys a_d_defaults k_count k_frozenSet k_staticType k_dynamicType k_target k_argumentCounts k_temporaryCounts k_keys k_kinds k_values k_temporaryKinds k_newKinds k_newValues d_open d_method d_family d_oldCount d_keptSet d_count d_sources d_keys d_defaults d_usedKeys) → va_S (fun q => q ∈ (w0).map (·.1)) s.heap H locs → ∀ ls : Array Slot, lv_has ls 5 [(0, .ref a_k), (1, .int y1), (2, .ref a_d), (3, .int y3)] → WI p l e rmX0_rearrange s m av below meth c D w0 w1 none H locs 77 ls [] := by
    intro n
    induction n with
    | zero => intro H locs k_argumentCounts k_keys k_kinds k_values k_newKinds k_newValues y1 y3 h; exact no_some h
    | succ n ih =>
      intro H locs k_argumentCounts k_keys k_kinds k_values k_newKinds k_newValues y1 y3 h hP hD hS ls hl
      rw [lX0_rearrange_77_s] at h
      refine lv_iload_n hx hb dX0_rearrange_77 rfl (lv_at hl 3 rfl) ?_
      refine lv_aload_n hx hb dX0_rearrange_78 rfl (lv_at hl 2 rfl) ?_
      refine va_get (D := D) (ci := 1) (v := .int d_count) (C := RX1) (T := TX1) (N := 10) hx hb hts hinX1 hown hKK.1 hP 12 rfl rfl 5 (by decide) lk89 (fun _ h9 => h9) rfl dX0_rearrange_79 ?_
      refine lv_icmp_ge (tgt := 125) hx hb dX0_rearrange_82 (by decide) (fun c1 => ?_) (fun c1 => ?_)
      · have h := ifp h c1
        refine lv_aload_n hx hb dX0_rearrange_125 rfl (lv_at hl 0 rfl) ?_
        refine va_get (D := D) (ci := 0) (v := .ref a_k_argumentCounts) (C := RX0) (T := TX0) (N := 13) hx hb hts hinX0 hown hKK.1 hP 0 rfl rfl 5 (by decide) lk21 (fun _ h9 => h9) rfl dX0_rearrange_126 ?_
        refine lv_iload_n hx hb dX0_rearrange_129 rfl (lv_at hl 1 rfl) ?_
        refine lv_aload_n hx hb dX0_rearrange_130 rfl (lv_at hl 2 rfl) ?_
        refine va_get (D := D) (ci := 1) (v := .int d_count) (C := RX1) (T := TX1) (N := 10) hx hb hts hinX1 hown hKK.1 hP 12 rfl rfl 5 (by decide) lk89 (fun _ h9 => h9) rfl dX0_rearrange_131 ?_
        obtain ⟨g2, ig2, eg2, h⟩ := wr_some h
        refine kAst hx hb hKK hP hD hS 4 rfl ig2 eg2 dX0_rearrange_134 (fun H locs hP hD hS => ?_)
        have hP : va_P D vwCl (W_k_d cI cM a_k a_k_staticType a_k_dynamicType a_k_target a_k_argumentCounts a_k_temporaryCounts a_k_keys a_k_kinds a_k_values a_k_temporaryKinds a_k_newKinds a_k_newValues a_d a_d_sources a_d_keys a_d_defaults k_count k_frozenSet k_staticType k_dynamicType k_target g2 k_temporaryCounts k_keys k_kinds k_values k_temporaryKinds k_newKinds k_newValues d_open d_method d_family d_oldCount d_keptSet d_count d_sources d_keys d_defaults d_usedKeys) H := hP
        have hD : va_D _ (W_k_d cI cM a_k a_k_staticType a_k_dynamicType a_k_target a_k_argumentCounts a_k_temporaryCounts a_k_keys a_k_kinds a_k_values a_k_temporaryKinds a_k_newKinds a_k_newValues a_d a_d_sources a_d_keys a_d_defaults k_count k_frozenSet k_staticType k_dynamicType k_target g2 k_temporaryCounts k_keys k_kinds k_values k_temporaryKinds k_newKinds k_newValues d_open d_method d_family d_oldCount d_keptSet d_count d_sources d_keys d_defaults d_usedKeys) := hD
        simp only [Option.some.injEq, Prod.mk.injEq] at h
        obtain ⟨e0, e1, e2, e3, e4, e5⟩ := h
        exact kRetV hx hb hr hlk (by rw [← hw1, ← e0, ← e1, ← e2, ← e3, ← e4, ← e5]; exact hP) hS dX0_rearrange_135
      · have h := ifn h c1
        refine lv_aload_n hx hb dX0_rearrange_85 rfl (lv_at hl 0 rfl) ?_
        refine va_get (D := D) (ci := 0) (v := .ref a_k_keys) (C := RX0) (T := TX0) (N := 13) hx hb hts hinX0 hown hKK.1 hP 0 rfl rfl 7 (by decide) lk27 (fun _ h9 => h9) rfl dX0_rearrange_86 ?_
        refine lv_iload_n hx hb dX0_rearrange_89 rfl (lv_at hl 1 rfl) ?_
        refine lv_iconst (v := 5) hx hb dX0_rearrange_90 (by decide) ?_
        refine lv_imul hx hb dX0_rearrange_91 ?_
        refine lv_iload_n hx hb dX0_rearrange_92 rfl (lv_at hl 3 rfl) ?_
        refine lv_iadd hx hb dX0_rearrange_93 ?_
        refine lv_aload_n hx hb dX0_rearrange_94 rfl (lv_at hl 2 rfl) ?_
        refine va_get (D := D) (ci := 1) (v := .ref a_d_keys) (C := RX1) (T := TX1) (N := 10) hx hb hts hinX1 hown hKK.1 hP 12 rfl rfl 7 (by decide) lk101 (fun _ h9 => h9) rfl dX0_rearrange_95 ?_
        refine lv_iload_n hx hb dX0_rearrange_98 rfl (lv_at hl 3 rfl) ?_
        obtain ⟨v3, iv3, ev3, h⟩ := rd_some h
        refine kAld hx hb hKK hP 14 rfl iv3 ev3 dX0_rearrange_99 ?_
        obtain ⟨g4, ig4, eg4, h⟩ := wr_some h
        refine kAst hx hb hKK hP hD hS 6 rfl ig4 eg4 dX0_rearrange_100 (fun H locs hP hD hS => ?_)
        have hP : va_P D vwCl (W_k_d cI cM a_k a_k_staticType a_k_dynamicType a_k_target a_k_argumentCounts a_k_temporaryCounts a_k_keys a_k_kinds a_k_values a_k_temporaryKinds a_k_newKinds a_k_newValues a_d a_d_sources a_d_keys a_d_defaults k_count k_frozenSet k_staticType k_dynamicType k_target k_argumentCounts k_temporaryCounts g4 k_kinds k_values k_temporaryKinds k_newKinds k_newValues d_open d_method d_family d_oldCount d_keptSet d_count d_sources d_keys d_defaults d_usedKeys) H := hP
        have hD : va_D _ (W_k_d cI cM a_k a_k_staticType a_k_dynamicType a_k_target a_k_argumentCounts a_k_temporaryCounts a_k_keys a_k_kinds a_k_values a_k_temporaryKinds a_k_newKinds a_k_newValues a_d a_d_sources a_d_keys a_d_defaults k_count k_frozenSet k_staticType k_dynamicType k_target k_argumentCounts k_temporaryCounts g4 k_kinds k_values k_temporaryKinds k_newKinds k_newValues d_open d_method d_family d_oldCount d_keptSet d_count d_sources d_keys d_defaults d_usedKeys) := hD
        refine lv_aload_n hx hb dX0_rearrange_101 rfl (lv_at hl 0 rfl) ?_
        refine lv_iload_n hx hb dX0_rearrange_102 rfl (lv_at hl 1 rfl) ?_
        refine lv_iload_n hx hb dX0_rearrange_103 rfl (lv_at hl 3 rfl) ?_
        refine lv_aload_n hx hb dX0_rearrange_104 rfl (lv_at hl 0 rfl) ?_
        refine va_get (D := D) (ci := 0) (v := .ref a_k_newKinds) (C := RX0) (T := TX0) (N := 13) hx hb hts hinX0 hown hKK.1 hP 0 rfl rfl 11 (by decide) lk39 (fun _ h9 => h9) rfl dX0_rearrange_105 ?_
        refine lv_iload_n hx hb dX0_rearrange_108 rfl (lv_at hl 3 rfl) ?_
        obtain ⟨v5, iv5, ev5, h⟩ := rd_some h
        refine kAld hx hb hKK hP 10 rfl iv5 ev5 dX0_rearrange_109 ?_
        refine lv_aload_n hx hb dX0_rearrange_110 rfl (lv_at hl 0 rfl) ?_
        refine va_get (D := D) (ci := 0) (v := .ref a_k_newValues) (C := RX0) (T := TX0) (N := 13) hx hb hts hinX0 hown hKK.1 hP 0 rfl rfl 12 (by decide) lk42 (fun _ h9 => h9) rfl dX0_rearrange_111 ?_
        refine lv_iload_n hx hb dX0_rearrange_114 rfl (lv_at hl 3 rfl) ?_
        obtain ⟨v6, iv6, ev6, h⟩ := rd_some h
        refine kAld hx hb hKK hP 11 rfl iv6 ev6 dX0_rearrange_115 ?_
        obtain ⟨g7, g8, eg7, h⟩ := bn2_some h
        refine kVB (As := [.int y1, .int y3, .int v5, .int v6]) (rest := []) (st1 := []) (Bs := [B_k cI cM a_k a_k_staticType a_k_dynamicType a_k_target a_k_argumentCounts a_k_temporaryCounts a_k_keys a_k_kinds a_k_values a_k_temporaryKinds a_k_newKinds a_k_newValues k_count k_frozenSet k_staticType k_dynamicType k_target k_argumentCounts k_temporaryCounts g4 k_kinds k_values k_temporaryKinds k_newKinds k_newValues, B_d cI cM a_d a_d_sources a_d_keys a_d_defaults d_open d_method d_family d_oldCount d_keptSet d_count d_sources d_keys d_defaults d_usedKeys]) (Bs1 := [B_k cI cM a_k a_k_staticType a_k_dynamicType a_k_target a_k_argumentCounts a_k_temporaryCounts a_k_keys a_k_kinds a_k_values a_k_temporaryKinds a_k_newKinds a_k_newValues k_count k_frozenSet k_staticType k_dynamicType k_target k_argumentCounts k_temporaryCounts g4 g7 g8 k_temporaryKinds k_newKinds k_newValues, B_d cI cM a_d a_d_sources a_d_keys a_d_defaults d_open d_method d_family d_oldCount d_keptSet d_count d_sources d_keys d_defaults d_usedKeys]) SS hKK (qX0_putArgument l D cI cM a_k a_k_staticType a_k_dynamicType a_k_target a_k_argumentCounts a_k_temporaryCounts a_k_keys a_k_kinds a_k_values a_k_temporaryKinds a_k_newKinds a_k_newValues k_count k_frozenSet k_staticType k_dynamicType k_target k_argumentCounts k_temporaryCounts g4 k_kinds k_values k_temporaryKinds k_newKinds k_newValues y1 y3 v5 v6 g7 g8 eg7) cw74 hP hD hS (isC := [0]) (isR := [1]) (C0 := [B_k cI cM a_k a_k_staticType a_k_dynamicType a_k_target a_k_argumentCounts a_k_temporaryCounts a_k_keys a_k_kinds a_k_values a_k_temporaryKinds a_k_newKinds a_k_newValues k_count k_frozenSet k_staticType k_dynamicType k_target k_argumentCounts k_temporaryCounts g4 k_kinds k_values k_temporaryKinds k_newKinds k_newValues]) (C1 := [B_k cI cM a_k a_k_staticType a_k_dynamicType a_k_target a_k_argumentCounts a_k_temporaryCounts a_k_keys a_k_kinds a_k_values a_k_temporaryKinds a_k_newKinds a_k_newValues k_count k_frozenSet k_staticType k_dynamicType k_target k_argumentCounts k_temporaryCounts g4 g7 g8 k_temporaryKinds k_newKinds k_newValues]) (Rr := [B_d cI cM a_d a_d_sources a_d_keys a_d_defaults d_open d_method d_family d_oldCount d_keptSet d_count d_sources d_keys d_defaults d_usedKeys]) (show (List.range 2).Perm ([0] ++ [1]) by decide) rfl rfl rfl rfl rfl rfl rfl rfl 0 0 rfl rfl rfl hl.1 rfl (Nat.le_of_ble_eq_true rfl) dX0_rearrange_116 ⟨Nat.zero_le _, Nat.zero_le _⟩ rfl (fun H locs hP hD hS => ?_)
        have hP : va_P D vwCl (W_k_d cI cM a_k a_k_staticType a_k_dynamicType a_k_target a_k_argumentCounts a_k_temporaryCounts a_k_keys a_k_kinds a_k_values a_k_temporaryKinds a_k_newKinds a_k_newValues a_d a_d_sources a_d_keys a_d_defaults k_count k_frozenSet k_staticType k_dynamicType k_target k_argumentCounts k_temporaryCounts g4 g7 g8 k_temporaryKinds k_newKinds k_newValues d_open d_method d_family d_oldCount d_keptSet d_count d_sources d_keys d_defaults d_usedKeys) H := hP
        have hD : va_D _ (W_k_d cI cM a_k a_k_staticType a_k_dynamicType a_k_target a_k_argumentCounts a_k_temporaryCounts a_k_keys a_k_kinds a_k_values a_k_temporaryKinds a_k_newKinds a_k_newValues a_d a_d_sources a_d_keys a_d_defaults k_count k_frozenSet k_staticType k_dynamicType k_target k_argumentCounts k_temporaryCounts g4 g7 g8 k_temporaryKinds k_newKinds k_newValues d_open d_method d_family d_oldCount d_keptSet d_count d_sources d_keys d_defaults d_usedKeys) := hD
        refine lv_iinc (v := y3 + 1) (lv' := [(3, .int (y3 + 1)), (0, .ref a_k), (1, .int y1), (2, .ref a_d)]) hx hb dX0_rearrange_119 hl (k := 3) rfl rfl (by decide) rfl (fun ls hl => ?_)
        refine lv_goto (tgt := 77) hx hb dX0_rearrange_122 (by decide) ?_
        exact ih H locs k_argumentCounts g4 g7 g8 k_newKinds k_newValues y1 (y3 + 1) h hP hD hS ls (lv_sub (l' := [(0, .ref a_k), (1, .int y1), (2, .ref a_d), (3, .int (y3 + 1))]) hl [1, 2, 3, 0] rfl)
  have F68 : ∀ (k2 : (Nat → Int32) → (Nat → Int32) → (Nat → Int32) → (Nat → Int32) → (Nat → Int32) → (Nat → Int32) → Int32 → Int32 → Option ((Nat → Int32) × (Nat → Int32) × (Nat → Int32) × (Nat → Int32) × (Nat → Int32) × (Nat → Int32))) (hk2 : ∀ (H : Heap) (locs : List Loc) (w_k_argumentCounts : Nat → Int32) (w_k_keys : Nat → Int32) (w_k_kinds : Nat → Int32) (w_k_values : Nat → Int32) (w_k_newKinds : Nat → Int32) (w_k_newValues : Nat → Int32) (u1 : Int32) (u3 : Int32), k2 w_k_argumentCounts w_k_keys w_k_kinds w_k_values w_k_newKinds w_k_newValues u1 u3 = some (r_k_argumentCounts, r_k_keys, r_k_kinds, r_k_values, r_k_newKinds, r_k_newValues) → va_P D vwCl (W_k_d cI cM a_k a_k_staticType a_k_dynamicType a_k_target a_k_argumentCounts a_k_temporaryCounts a_k_keys a_k_kinds a_k_values a_k_temporaryKinds a_k_newKinds a_k_newValues a_d a_d_sources a_d_keys a_d_defaults k_count k_frozenSet k_staticType k_dynamicType k_target w_k_argumentCounts k_temporaryCounts w_k_keys w_k_kinds w_k_values k_temporaryKinds w_k_newKinds w_k_newValues d_open d_method d_family d_oldCount d_keptSet d_count d_sources d_keys d_defaults d_usedKeys) H → va_D (fun q => q ∈ w0.map (·.1)) (W_k_d cI cM a_k a_k_staticType a_k_dynamicType a_k_target a_k_argumentCounts a_k_temporaryCounts a_k_keys a_k_kinds a_k_values a_k_temporaryKinds a_k_newKinds a_k_newValues a_d a_d_sources a_d_keys a_d_defaults k_count k_frozenSet k_staticType k_dynamicType k_target w_k_argumentCounts k_temporaryCounts w_k_keys w_k_kinds w_k_values k_temporaryKinds w_k_newKinds w_k_newValues d_open d_method d_family d_oldCount d_keptSet d_count d_sources d_keys d_defaults d_usedKeys) → va_S (fun q => q ∈ w0.map (·.1)) s.heap H locs → ∀ ls : Array Slot, lv_has ls 5 [(0, .ref a_k), (1, .int u1), (2, .ref a_d), (3, .int u3)] → WI p l e rmX0_rearrange s m av below meth c D w0 w1 none H locs 2 ls []), ∀ (H : Heap) (locs : List Loc) (k_argumentCounts : Nat → Int32) (k_keys : Nat → Int32) (k_kinds : Nat → Int32) (k_values : Nat → Int32) (k_newKinds : Nat → Int32) (k_newValues : Nat → Int32) (y1 : Int32) (y3 : Int32) (s1 : Int32) (s2 : Int32), jX0_rearrange_68 d_count d_sources d_keys d_defaults k2 k_argumentCounts k_keys k_kinds k_values k_newKinds k_newValues y1 y3 s1 s2 = some (r_k_argumentCounts, r_k_keys, r_k_kinds, r_k_values, r_k_newKinds, r_k_newValues) → va_P D vwCl (W_k_d cI cM a_k a_k_staticType a_k_dynamicType a_k_target a_k_argumentCounts a_k_temporaryCounts a_k_keys a_k_kinds a_k_values a_k_temporaryKinds a_k_newKinds a_k_newValues a_d a_d_sources a_d_keys a_d_defaults k_count k_frozenSet k_staticType k_dynamicType k_target k_argumentCounts k_temporaryCounts k_keys k_kinds k_values k_temporaryKinds k_newKinds k_newValues d_open d_method d_family d_oldCount d_keptSet d_count d_sources d_keys d_defaults d_usedKeys) H → va_D (fun q => q ∈ (w0).map (·.1)) (W_k_d cI cM a_k a_k_staticType a_k_dynamicType a_k_target a_k_argumentCounts a_k_temporaryCounts a_k_keys a_k_kinds a_k_values a_k_temporaryKinds a_k_newKinds a_k_newValues a_d a_d_sources a_d_keys a_d_defaults k_count k_frozenSet k_staticType k_dynamicType k_target k_argumentCounts k_temporaryCounts k_keys k_kinds k_values k_temporaryKinds k_newKinds k_newValues d_open d_method d_family d_oldCount d_keptSet d_count d_sources d_keys d_defaults d_usedKeys) → va_S (fun q => q ∈ (w0).map (·.1)) s.heap H locs → ∀ ls : Array Slot, lv_has ls 5 [(0, .ref a_k), (1, .int y1), (2, .ref a_d), (3, .int y3)] → WI p l e rmX0_rearrange s m av below meth c D w0 w1 none H locs 68 ls [.int s2, .int s1, .ref a_k_newValues] := by
    intro k2 hk2
    intro H locs k_argumentCounts k_keys k_kinds k_values k_newKinds k_newValues y1 y3 s1 s2 h hP hD hS ls hl
    unfold jX0_rearrange_68 at h
    obtain ⟨g1, ig1, eg1, h⟩ := wr_some h
    refine kAst hx hb hKK hP hD hS 11 rfl ig1 eg1 dX0_rearrange_68 (fun H locs hP hD hS => ?_)
    have hP : va_P D vwCl (W_k_d cI cM a_k a_k_staticType a_k_dynamicType a_k_target a_k_argumentCounts a_k_temporaryCounts a_k_keys a_k_kinds a_k_values a_k_temporaryKinds a_k_newKinds a_k_newValues a_d a_d_sources a_d_keys a_d_defaults k_count k_frozenSet k_staticType k_dynamicType k_target k_argumentCounts k_temporaryCounts k_keys k_kinds k_values k_temporaryKinds k_newKinds g1 d_open d_method d_family d_oldCount d_keptSet d_count d_sources d_keys d_defaults d_usedKeys) H := hP
    have hD : va_D _ (W_k_d cI cM a_k a_k_staticType a_k_dynamicType a_k_target a_k_argumentCounts a_k_temporaryCounts a_k_keys a_k_kinds a_k_values a_k_temporaryKinds a_k_newKinds a_k_newValues a_d a_d_sources a_d_keys a_d_defaults k_count k_frozenSet k_staticType k_dynamicType k_target k_argumentCounts k_temporaryCounts k_keys k_kinds k_values k_temporaryKinds k_newKinds g1 d_open d_method d_family d_oldCount d_keptSet d_count d_sources d_keys d_defaults d_usedKeys) := hD
    refine lv_iinc (v := y3 + 1) (lv' := [(3, .int (y3 + 1)), (0, .ref a_k), (1, .int y1), (2, .ref a_d)]) hx hb dX0_rearrange_69 hl (k := 3) rfl rfl (by decide) rfl (fun ls hl => ?_)
    refine lv_goto (tgt := 2) hx hb dX0_rearrange_72 (by decide) ?_
    exact hk2 H locs k_argumentCounts k_keys k_kinds k_values k_newKinds g1 y1 (y3 + 1) h hP hD hS ls (lv_sub (l' := [(0, .ref a_k), (1, .int y1), (2, .ref a_d), (3, .int (y3 + 1))]) hl [1, 2, 3, 0] rfl)
  have F40 : ∀ (k2 : (Nat → Int32) → (Nat → Int32) → (Nat → Int32) → (Nat → Int32) → (Nat → Int32) → (Nat → Int32) → Int32 → Int32 → Option ((Nat → Int32) × (Nat → Int32) × (Nat → Int32) × (Nat → Int32) × (Nat → Int32) × (Nat → Int32))) (hk2 : ∀ (H : Heap) (locs : List Loc) (w_k_argumentCounts : Nat → Int32) (w_k_keys : Nat → Int32) (w_k_kinds : Nat → Int32) (w_k_values : Nat → Int32) (w_k_newKinds : Nat → Int32) (w_k_newValues : Nat → Int32) (u1 : Int32) (u3 : Int32), k2 w_k_argumentCounts w_k_keys w_k_kinds w_k_values w_k_newKinds w_k_newValues u1 u3 = some (r_k_argumentCounts, r_k_keys, r_k_kinds, r_k_values, r_k_newKinds, r_k_newValues) → va_P D vwCl (W_k_d cI cM a_k a_k_staticType a_k_dynamicType a_k_target a_k_argumentCounts a_k_temporaryCounts a_k_keys a_k_kinds a_k_values a_k_temporaryKinds a_k_newKinds a_k_newValues a_d a_d_sources a_d_keys a_d_defaults k_count k_frozenSet k_staticType k_dynamicType k_target w_k_argumentCounts k_temporaryCounts w_k_keys w_k_kinds w_k_values k_temporaryKinds w_k_newKinds w_k_newValues d_open d_method d_family d_oldCount d_keptSet d_count d_sources d_keys d_defaults d_usedKeys) H → va_D (fun q => q ∈ w0.map (·.1)) (W_k_d cI cM a_k a_k_staticType a_k_dynamicType a_k_target a_k_argumentCounts a_k_temporaryCounts a_k_keys a_k_kinds a_k_values a_k_temporaryKinds a_k_newKinds a_k_newValues a_d a_d_sources a_d_keys a_d_defaults k_count k_frozenSet k_staticType k_dynamicType k_target w_k_argumentCounts k_temporaryCounts w_k_keys w_k_kinds w_k_values k_temporaryKinds w_k_newKinds w_k_newValues d_open d_method d_family d_oldCount d_keptSet d_count d_sources d_keys d_defaults d_usedKeys) → va_S (fun q => q ∈ w0.map (·.1)) s.heap H locs → ∀ ls : Array Slot, lv_has ls 5 [(0, .ref a_k), (1, .int u1), (2, .ref a_d), (3, .int u3)] → WI p l e rmX0_rearrange s m av below meth c D w0 w1 none H locs 2 ls []), ∀ (H : Heap) (locs : List Loc) (k_argumentCounts : Nat → Int32) (k_keys : Nat → Int32) (k_kinds : Nat → Int32) (k_values : Nat → Int32) (k_newKinds : Nat → Int32) (k_newValues : Nat → Int32) (y1 : Int32) (y3 : Int32) (y4 : Int32) (s1 : Int32) (s2 : Int32), jX0_rearrange_40 d_count d_sources d_keys d_defaults k2 k_argumentCounts k_keys k_kinds k_values k_newKinds k_newValues y1 y3 y4 s1 s2 = some (r_k_argumentCounts, r_k_keys, r_k_kinds, r_k_values, r_k_newKinds, r_k_newValues) → va_P D vwCl (W_k_d cI cM a_k a_k_staticType a_k_dynamicType a_k_target a_k_argumentCounts a_k_temporaryCounts a_k_keys a_k_kinds a_k_values a_k_temporaryKinds a_k_newKinds a_k_newValues a_d a_d_sources a_d_keys a_d_defaults k_count k_frozenSet k_staticType k_dynamicType k_target k_argumentCounts k_temporaryCounts k_keys k_kinds k_values k_temporaryKinds k_newKinds k_newValues d_open d_method d_family d_oldCount d_keptSet d_count d_sources d_keys d_defaults d_usedKeys) H → va_D (fun q => q ∈ (w0).map (·.1)) (W_k_d cI cM a_k a_k_staticType a_k_dynamicType a_k_target a_k_argumentCounts a_k_temporaryCounts a_k_keys a_k_kinds a_k_values a_k_temporaryKinds a_k_newKinds a_k_newValues a_d a_d_sources a_d_keys a_d_defaults k_count k_frozenSet k_staticType k_dynamicType k_target k_argumentCounts k_temporaryCounts k_keys k_kinds k_values k_temporaryKinds k_newKinds k_newValues d_open d_method d_family d_oldCount d_keptSet d_count d_sources d_keys d_defaults d_usedKeys) → va_S (fun q => q ∈ (w0).map (·.1)) s.heap H locs → ∀ ls : Array Slot, lv_has ls 5 [(0, .ref a_k), (1, .int y1), (2, .ref a_d), (3, .int y3), (4, .int y4)] → WI p l e rmX0_rearrange s m av below meth c D w0 w1 none H locs 40 ls [.int s2, .int s1, .ref a_k_newKinds] := by
    intro k2 hk2
    intro H locs k_argumentCounts k_keys k_kinds k_values k_newKinds k_newValues y1 y3 y4 s1 s2 h hP hD hS ls hl
    unfold jX0_rearrange_40 at h
    obtain ⟨g1, ig1, eg1, h⟩ := wr_some h
    refine kAst hx hb hKK hP hD hS 10 rfl ig1 eg1 dX0_rearrange_40 (fun H locs hP hD hS => ?_)
    have hP : va_P D vwCl (W_k_d cI cM a_k a_k_staticType a_k_dynamicType a_k_target a_k_argumentCounts a_k_temporaryCounts a_k_keys a_k_kinds a_k_values a_k_temporaryKinds a_k_newKinds a_k_newValues a_d a_d_sources a_d_keys a_d_defaults k_count k_frozenSet k_staticType k_dynamicType k_target k_argumentCounts k_temporaryCounts k_keys k_kinds k_values k_temporaryKinds g1 k_newValues d_open d_method d_family d_oldCount d_keptSet d_count d_sources d_keys d_defaults d_usedKeys) H := hP
    have hD : va_D _ (W_k_d cI cM a_k a_k_staticType a_k_dynamicType a_k_target a_k_argumentCounts a_k_temporaryCounts a_k_keys a_k_kinds a_k_values a_k_temporaryKinds a_k_newKinds a_k_newValues a_d a_d_sources a_d_keys a_d_defaults k_count k_frozenSet k_staticType k_dynamicType k_target k_argumentCounts k_temporaryCounts k_keys k_kinds k_values k_temporaryKinds g1 k_newValues d_open d_method d_family d_oldCount d_keptSet d_count d_sources d_keys d_defaults d_usedKeys) := hD
    refine lv_aload_n hx hb dX0_rearrange_41 rfl (lv_at hl 0 rfl) ?_
    refine va_get (D := D) (ci := 0) (v := .ref a_k_newValues) (C := RX0) (T := TX0) (N := 13) hx hb hts hinX0 hown hKK.1 hP 0 rfl rfl 12 (by decide) lk42 (fun _ h9 => h9) rfl dX0_rearrange_42 ?_
    refine lv_iload_n hx hb dX0_rearrange_45 rfl (lv_at hl 3 rfl) ?_
    refine lv_iload hx hb dX0_rearrange_46 (lv_at hl 4 rfl) ?_
    refine lv_iconst (v := (-1)) hx hb dX0_rearrange_48 (by decide) ?_
    refine lv_icmp_ne (tgt := 61) hx hb dX0_rearrange_49 (by decide) (fun c2 => ?_) (fun c2 => ?_)
    · have h := ifn h c2
      refine lv_aload_n hx hb dX0_rearrange_61 rfl (lv_at hl 0 rfl) ?_
      refine lv_iload_n hx hb dX0_rearrange_62 rfl (lv_at hl 1 rfl) ?_
      refine lv_iload hx hb dX0_rearrange_63 (lv_at hl 4 rfl) ?_
      obtain ⟨v3, ev3, h⟩ := bn_some h
      have hs4 : va_P D vwCl (W_k cI cM a_k a_k_staticType a_k_dynamicType a_k_target a_k_argumentCounts a_k_temporaryCounts a_k_keys a_k_kinds a_k_values a_k_temporaryKinds a_k_newKinds a_k_newValues k_count k_frozenSet k_staticType k_dynamicType k_target k_argumentCounts k_temporaryCounts k_keys k_kinds k_values k_temporaryKinds g1 k_newValues) _ := blkP (Bs := [B_k cI cM a_k a_k_staticType a_k_dynamicType a_k_target a_k_argumentCounts a_k_temporaryCounts a_k_keys a_k_kinds a_k_values a_k_temporaryKinds a_k_newKinds a_k_newValues k_count k_frozenSet k_staticType k_dynamicType k_target k_argumentCounts k_temporaryCounts k_keys k_kinds k_values k_temporaryKinds g1 k_newValues, B_d cI cM a_d a_d_sources a_d_keys a_d_defaults d_open d_method d_family d_oldCount d_keptSet d_count d_sources d_keys d_defaults d_usedKeys]) hP [0] (C0 := [B_k cI cM a_k a_k_staticType a_k_dynamicType a_k_target a_k_argumentCounts a_k_temporaryCounts a_k_keys a_k_kinds a_k_values a_k_temporaryKinds a_k_newKinds a_k_newValues k_count k_frozenSet k_staticType k_dynamicType k_target k_argumentCounts k_temporaryCounts k_keys k_kinds k_values k_temporaryKinds g1 k_newValues]) rfl rfl
      refine kV (As := [.int y1, .int y4]) (rest := [.int y3, .ref a_k_newValues]) SS hKK (qX0_valueOf l D cI cM a_k a_k_staticType a_k_dynamicType a_k_target a_k_argumentCounts a_k_temporaryCounts a_k_keys a_k_kinds a_k_values a_k_temporaryKinds a_k_newKinds a_k_newValues k_count k_frozenSet k_staticType k_dynamicType k_target k_argumentCounts k_temporaryCounts k_keys k_kinds k_values k_temporaryKinds g1 k_newValues y1 y4 v3 ev3) cw98 hs4 0 0 rfl rfl rfl hl.1 rfl (Nat.le_of_ble_eq_true rfl) dX0_rearrange_65 ⟨Nat.zero_le _, Nat.zero_le _⟩ ?_
      exact F68 k2 hk2 H locs k_argumentCounts k_keys k_kinds k_values g1 k_newValues y1 y3 y3 v3 h hP hD hS ls (lv_sub (l' := [(0, .ref a_k), (1, .int y1), (2, .ref a_d), (3, .int y3)]) hl [0, 1, 2, 3] rfl)
    · have h := ifp h c2
      refine lv_aload_n hx hb dX0_rearrange_52 rfl (lv_at hl 2 rfl) ?_
      refine va_get (D := D) (ci := 1) (v := .ref a_d_defaults) (C := RX1) (T := TX1) (N := 10) hx hb hts hinX1 hown hKK.1 hP 12 rfl rfl 8 (by decide) lk95 (fun _ h9 => h9) rfl dX0_rearrange_53 ?_
      refine lv_iload_n hx hb dX0_rearrange_56 rfl (lv_at hl 3 rfl) ?_
      obtain ⟨v5, iv5, ev5, h⟩ := rd_some h
      refine kAld hx hb hKK hP 15 rfl iv5 ev5 dX0_rearrange_57 ?_
      refine lv_goto (tgt := 68) hx hb dX0_rearrange_58 (by decide) ?_
      exact F68 k2 hk2 H locs k_argumentCounts k_keys k_kinds k_values g1 k_newValues y1 y3 y3 v5 h hP hD hS ls (lv_sub (l' := [(0, .ref a_k), (1, .int y1), (2, .ref a_d), (3, .int y3)]) hl [0, 1, 2, 3] rfl)
  have F2 : ∀ (n : Nat) (H : Heap) (locs : List Loc) (k_argumentCounts : Nat → Int32) (k_keys : Nat → Int32) (k_kinds : Nat → Int32) (k_values : Nat → Int32) (k_newKinds : Nat → Int32) (k_newValues : Nat → Int32) (y1 : Int32) (y3 : Int32), lX0_rearrange_2 d_count d_sources d_keys d_defaults n k_argumentCounts k_keys k_kinds k_values k_newKinds k_newValues y1 y3 = some (r_k_argumentCounts, r_k_keys, r_k_kinds, r_k_values, r_k_newKinds, r_k_newValues) → va_P D vwCl (W_k_d cI cM a_k a_k_staticType a_k_dynamicType a_k_target a_k_argumentCounts a_k_temporaryCounts a_k_keys a_k_kinds a_k_values a_k_temporaryKinds a_k_newKinds a_k_newValues a_d a_d_sources a_d_keys a_d_defaults k_count k_frozenSet k_staticType k_dynamicType k_target k_argumentCounts k_temporaryCounts k_keys k_kinds k_values k_temporaryKinds k_newKinds k_newValues d_open d_method d_family d_oldCount d_keptSet d_count d_sources d_keys d_defaults d_usedKeys) H → va_D (fun q => q ∈ (w0).map (·.1)) (W_k_d cI cM a_k a_k_staticType a_k_dynamicType a_k_target a_k_argumentCounts a_k_temporaryCounts a_k_keys a_k_kinds a_k_values a_k_temporaryKinds a_k_newKinds a_k_newValues a_d a_d_sources a_d_keys a_d_defaults k_count k_frozenSet k_staticType k_dynamicType k_target k_argumentCounts k_temporaryCounts k_keys k_kinds k_values k_temporaryKinds k_newKinds k_newValues d_open d_method d_family d_oldCount d_keptSet d_count d_sources d_keys d_defaults d_usedKeys) → va_S (fun q => q ∈ (w0).map (·.1)) s.heap H locs → ∀ ls : Array Slot, lv_has ls 5 [(0, .ref a_k), (1, .int y1), (2, .ref a_d), (3, .int y3)] → WI p l e rmX0_rearrange s m av below meth c D w0 w1 none H locs 2 ls [] := by
    intro n
    induction n with
    | zero => intro H locs k_argumentCounts k_keys k_kinds k_values k_newKinds k_newValues y1 y3 h; exact no_some h
    | succ n ih =>
      intro H locs k_argumentCounts k_keys k_kinds k_values k_newKinds k_newValues y1 y3 h hP hD hS ls hl
      rw [lX0_rearrange_2_s] at h
      refine lv_iload_n hx hb dX0_rearrange_2 rfl (lv_at hl 3 rfl) ?_
      refine lv_aload_n hx hb dX0_rearrange_3 rfl (lv_at hl 2 rfl) ?_
      refine va_get (D := D) (ci := 1) (v := .int d_count) (C := RX1) (T := TX1) (N := 10) hx hb hts hinX1 hown hKK.1 hP 12 rfl rfl 5 (by decide) lk89 (fun _ h9 => h9) rfl dX0_rearrange_4 ?_
      refine lv_icmp_ge (tgt := 75) hx hb dX0_rearrange_7 (by decide) (fun c1 => ?_) (fun c1 => ?_)
      · have h := ifp h c1
        refine lv_iconst (v := 0) hx hb dX0_rearrange_75 (by decide) ?_
        refine lv_istore_n (lv' := [(3, .int 0), (0, .ref a_k), (1, .int y1), (2, .ref a_d)]) hx hb dX0_rearrange_76 rfl hl (by decide) rfl (fun ls hl => ?_)
        exact F77 5000 H locs k_argumentCounts k_keys k_kinds k_values k_newKinds k_newValues y1 0 h hP hD hS ls (lv_sub (l' := [(0, .ref a_k), (1, .int y1), (2, .ref a_d), (3, .int 0)]) hl [1, 2, 3, 0] rfl)
      · have h := ifn h c1
        refine lv_aload_n hx hb dX0_rearrange_10 rfl (lv_at hl 2 rfl) ?_
        refine va_get (D := D) (ci := 1) (v := .ref a_d_sources) (C := RX1) (T := TX1) (N := 10) hx hb hts hinX1 hown hKK.1 hP 12 rfl rfl 6 (by decide) lk92 (fun _ h9 => h9) rfl dX0_rearrange_11 ?_
        refine lv_iload_n hx hb dX0_rearrange_14 rfl (lv_at hl 3 rfl) ?_
        obtain ⟨v2, iv2, ev2, h⟩ := rd_some h
        refine kAld hx hb hKK hP 13 rfl iv2 ev2 dX0_rearrange_15 ?_
        refine lv_istore (lv' := [(4, .int v2), (0, .ref a_k), (1, .int y1), (2, .ref a_d), (3, .int y3)]) hx hb dX0_rearrange_16 hl (by decide) rfl (fun ls hl => ?_)
        refine lv_aload_n hx hb dX0_rearrange_18 rfl (lv_at hl 1 rfl) ?_
        refine va_get (D := D) (ci := 0) (v := .ref a_k_newKinds) (C := RX0) (T := TX0) (N := 13) hx hb hts hinX0 hown hKK.1 hP 0 rfl rfl 11 (by decide) lk39 (fun _ h9 => h9) rfl dX0_rearrange_19 ?_
        refine lv_iload_n hx hb dX0_rearrange_22 rfl (lv_at hl 4 rfl) ?_
        refine lv_iload hx hb dX0_rearrange_23 (lv_at hl 0 rfl) ?_
        refine lv_iconst (v := (-1)) hx hb dX0_rearrange_25 (by decide) ?_
        refine lv_icmp_ne (tgt := 33) hx hb dX0_rearrange_26 (by decide) (fun c3 => ?_) (fun c3 => ?_)
        · have h := ifn h c3
          refine lv_aload_n hx hb dX0_rearrange_33 rfl (lv_at hl 1 rfl) ?_
          refine lv_iload_n hx hb dX0_rearrange_34 rfl (lv_at hl 2 rfl) ?_
          refine lv_iload hx hb dX0_rearrange_35 (lv_at hl 0 rfl) ?_
          obtain ⟨v4, ev4, h⟩ := bn_some h
          have hs5 : va_P D vwCl (W_k cI cM a_k a_k_staticType a_k_dynamicType a_k_target a_k_argumentCounts a_k_temporaryCounts a_k_keys a_k_kinds a_k_values a_k_temporaryKinds a_k_newKinds a_k_newValues k_count k_frozenSet k_staticType k_dynamicType k_target k_argumentCounts k_temporaryCounts k_keys k_kinds k_values k_temporaryKinds k_newKinds k_newValues) _ := blkP (Bs := [B_k cI cM a_k a_k_staticType a_k_dynamicType a_k_target a_k_argumentCounts a_k_temporaryCounts a_k_keys a_k_kinds a_k_values a_k_temporaryKinds a_k_newKinds a_k_newValues k_count k_frozenSet k_staticType k_dynamicType k_target k_argumentCounts k_temporaryCounts k_keys k_kinds k_values k_temporaryKinds k_newKinds k_newValues, B_d cI cM a_d a_d_sources a_d_keys a_d_defaults d_open d_method d_family d_oldCount d_keptSet d_count d_sources d_keys d_defaults d_usedKeys]) hP [0] (C0 := [B_k cI cM a_k a_k_staticType a_k_dynamicType a_k_target a_k_argumentCounts a_k_temporaryCounts a_k_keys a_k_kinds a_k_values a_k_temporaryKinds a_k_newKinds a_k_newValues k_count k_frozenSet k_staticType k_dynamicType k_target k_argumentCounts k_temporaryCounts k_keys k_kinds k_values k_temporaryKinds k_newKinds k_newValues]) rfl rfl
          refine kV (As := [.int y1, .int v2]) (rest := [.int y3, .ref a_k_newKinds]) SS hKK (qX0_kindOf l D cI cM a_k a_k_staticType a_k_dynamicType a_k_target a_k_argumentCounts a_k_temporaryCounts a_k_keys a_k_kinds a_k_values a_k_temporaryKinds a_k_newKinds a_k_newValues k_count k_frozenSet k_staticType k_dynamicType k_target k_argumentCounts k_temporaryCounts k_keys k_kinds k_values k_temporaryKinds k_newKinds k_newValues y1 v2 v4 ev4) cw86 hs5 0 0 rfl rfl rfl hl.1 rfl (Nat.le_of_ble_eq_true rfl) dX0_rearrange_37 ⟨Nat.zero_le _, Nat.zero_le _⟩ ?_
          exact F40 (fun w_k_argumentCounts w_k_keys w_k_kinds w_k_values w_k_newKinds w_k_newValues u1 u3 => lX0_rearrange_2 d_count d_sources d_keys d_defaults n w_k_argumentCounts w_k_keys w_k_kinds w_k_values w_k_newKinds w_k_newValues u1 u3) (fun H locs w_k_argumentCounts w_k_keys w_k_kinds w_k_values w_k_newKinds w_k_newValues u1 u3 h hP hD hS ls hl => ih H locs w_k_argumentCounts w_k_keys w_k_kinds w_k_values w_k_newKinds w_k_newValues u1 u3 h hP hD hS ls hl) H locs k_argumentCounts k_keys k_kinds k_values k_newKinds k_newValues y1 y3 v2 y3 v4 h hP hD hS ls (lv_sub (l' := [(0, .ref a_k), (1, .int y1), (2, .ref a_d), (3, .int y3), (4, .int v2)]) hl [1, 2, 3, 4, 0] rfl)
        · have h := ifp h c3
          refine lv_iconst (v := 0) hx hb dX0_rearrange_29 (by decide) ?_
          refine lv_goto (tgt := 40) hx hb dX0_rearrange_30 (by decide) ?_
          exact F40 (fun w_k_argumentCounts w_k_keys w_k_kinds w_k_values w_k_newKinds w_k_newValues u1 u3 => lX0_rearrange_2 d_count d_sources d_keys d_defaults n w_k_argumentCounts w_k_keys w_k_kinds w_k_values w_k_newKinds w_k_newValues u1 u3) (fun H locs w_k_argumentCounts w_k_keys w_k_kinds w_k_values w_k_newKinds w_k_newValues u1 u3 h hP hD hS ls hl => ih H locs w_k_argumentCounts w_k_keys w_k_kinds w_k_values w_k_newKinds w_k_newValues u1 u3 h hP hD hS ls hl) H locs k_argumentCounts k_keys k_kinds k_values k_newKinds k_newValues y1 y3 v2 y3 0 h hP hD hS ls (lv_sub (l' := [(0, .ref a_k), (1, .int y1), (2, .ref a_d), (3, .int y3), (4, .int v2)]) hl [1, 2, 3, 4, 0] rfl)
  unfold fX0_rearrange at h
  refine lv_iconst (v := 0) hx hb dX0_rearrange_0 (by decide) ?_
  refine lv_istore_n (lv' := [(3, .int 0), (0, .ref a_k), (1, .int x1), (2, .ref a_d)]) hx hb dX0_rearrange_1 rfl hl (by decide) rfl (fun ls hl => ?_)
  exact F2 5000 s.heap [] k_argumentCounts k_keys k_kinds k_values k_newKinds k_newValues x1 0 h hP hD hS ls (lv_sub (l' := [(0, .ref a_k), (1, .int x1), (2, .ref a_d), (3, .int 0)]) hl [1, 2, 3, 0] rfl)
set_option maxHeartbeats 8000000 in
set_option maxRecDepth 100000 in
theorem qX0_rewrite (l : Launch) (D : va_G) (cI cM : ClassId) (a_k a_k_staticType a_k_dynamicType a_k_target a_k_argumentCounts a_k_temporaryCounts a_k_keys a_k_kinds a_k_values a_k_temporaryKinds a_k_newKinds a_k_newValues a_q1 a_d a_d_sources a_d_keys a_d_defaults : Nat) (k_count : Int32) (k_frozenSet : Int32) (k_staticType : Nat → Int32) (k_dynamicType : Nat → Int32) (k_target : Nat → Int32) (k_argumentCounts : Nat → Int32) (k_temporaryCounts : Nat → Int32) (k_keys : Nat → Int32) (k_kinds : Nat → Int32) (k_values : Nat → Int32) (k_temporaryKinds : Nat → Int32) (k_newKinds : Nat → Int32) (k_newValues : Nat → Int32) (q1_c : Nat → Int32) (d_open : Int32) (d_method : Int32) (d_family : Int32) (d_oldCount : Int32) (d_keptSet : Int32) (d_count : Int32) (d_sources : Nat → Int32) (d_keys : Nat → Int32) (d_defaults : Nat → Int32) (d_usedKeys : Int32) (x1 : Int32) (r_k_argumentCounts : Nat → Int32) (r_k_temporaryCounts : Nat → Int32) (r_k_keys : Nat → Int32) (r_k_kinds : Nat → Int32) (r_k_values : Nat → Int32) (r_k_temporaryKinds : Nat → Int32) (r_k_newKinds : Nat → Int32) (r_k_newValues : Nat → Int32) (h : fX0_rewrite k_count k_argumentCounts k_temporaryCounts k_keys k_kinds k_values k_temporaryKinds k_newKinds k_newValues q1_c d_count d_sources d_keys d_defaults x1 = some (r_k_argumentCounts, r_k_temporaryCounts, r_k_keys, r_k_kinds, r_k_values, r_k_temporaryKinds, r_k_newKinds, r_k_newValues)) : IM l yX0_rewrite wsX0_rewrite rmX0_rewrite D cI cM [.ref a_k, .int x1, .ref a_q1, .ref a_d] (W_k_q1_d cI cM a_k a_k_staticType a_k_dynamicType a_k_target a_k_argumentCounts a_k_temporaryCounts a_k_keys a_k_kinds a_k_values a_k_temporaryKinds a_k_newKinds a_k_newValues a_q1 a_d a_d_sources a_d_keys a_d_defaults k_count k_frozenSet k_staticType k_dynamicType k_target k_argumentCounts k_temporaryCounts k_keys k_kinds k_values k_temporaryKinds k_newKinds k_newValues q1_c d_open d_method d_family d_oldCount d_keptSet d_count d_sources d_keys d_defaults d_usedKeys) (W_k_q1_d cI cM a_k a_k_staticType a_k_dynamicType a_k_target a_k_argumentCounts a_k_temporaryCounts a_k_keys a_k_kinds a_k_values a_k_temporaryKinds a_k_newKinds a_k_newValues a_q1 a_d a_d_sources a_d_keys a_d_defaults k_count k_frozenSet k_staticType k_dynamicType k_target r_k_argumentCounts r_k_temporaryCounts r_k_keys r_k_kinds r_k_values r_k_temporaryKinds r_k_newKinds r_k_newValues q1_c d_open d_method d_family d_oldCount d_keptSet d_count d_sources d_keys d_defaults d_usedKeys) none := by
  refine IM.of (cc := cX0_rewrite) (maxL := 5) (ret := none) (by decide) rfl (Nat.le_of_ble_eq_true rfl) ?_
  intro p e s m below meth c ls hx hb hr hml hown hts hlk hKK hP hD hS hl
  have hown : s.vm.findClass RX0 = some m.cls := hown
  have hl : lv_has ls 5 [(0, .ref a_k), (1, .int x1), (2, .ref a_q1), (3, .ref a_d)] := hl
  generalize hav : ([.ref a_k, .int x1, .ref a_q1, .ref a_d] : List Value) = av at hts ⊢
  generalize hw1 : W_k_q1_d cI cM a_k a_k_staticType a_k_dynamicType a_k_target a_k_argumentCounts a_k_temporaryCounts a_k_keys a_k_kinds a_k_values a_k_temporaryKinds a_k_newKinds a_k_newValues a_q1 a_d a_d_sources a_d_keys a_d_defaults k_count k_frozenSet k_staticType k_dynamicType k_target r_k_argumentCounts r_k_temporaryCounts r_k_keys r_k_kinds r_k_values r_k_temporaryKinds r_k_newKinds r_k_newValues q1_c d_open d_method d_family d_oldCount d_keptSet d_count d_sources d_keys d_defaults d_usedKeys = w1
  generalize hw0 : W_k_q1_d cI cM a_k a_k_staticType a_k_dynamicType a_k_target a_k_argumentCounts a_k_temporaryCounts a_k_keys a_k_kinds a_k_values a_k_temporaryKinds a_k_newKinds a_k_newValues a_q1 a_d a_d_sources a_d_keys a_d_defaults k_count k_frozenSet k_staticType k_dynamicType k_target k_argumentCounts k_temporaryCounts k_keys k_kinds k_values k_temporaryKinds k_newKinds k_newValues q1_c d_open d_method d_family d_oldCount d_keptSet d_count d_sources d_keys d_defaults d_usedKeys = w0 at hD hS ⊢
  have hP : va_P D vwCl (W_k_q1_d cI cM a_k a_k_staticType a_k_dynamicType a_k_target a_k_argumentCounts a_k_temporaryCounts a_k_keys a_k_kinds a_k_values a_k_temporaryKinds a_k_newKinds a_k_newValues a_q1 a_d a_d_sources a_d_keys a_d_defaults k_count k_frozenSet k_staticType k_dynamicType k_target k_argumentCounts k_temporaryCounts k_keys k_kinds k_values k_temporaryKinds k_newKinds k_newValues q1_c d_open d_method d_family d_oldCount d_keptSet d_count d_sources d_keys d_defaults d_usedKeys) s.heap := hP
  have hD : va_D (fun q => q ∈ w0.map (·.1)) (W_k_q1_d cI cM a_k a_k_staticType a_k_dynamicType a_k_target a_k_argumentCounts a_k_temporaryCounts a_k_keys a_k_kinds a_k_values a_k_temporaryKinds a_k_newKinds a_k_newValues a_q1 a_d a_d_sources a_d_keys a_d_defaults k_count k_frozenSet k_staticType k_dynamicType k_target k_argumentCounts k_temporaryCounts k_keys k_kinds k_values k_temporaryKinds k_newKinds k_newValues q1_c d_open d_method d_family d_oldCount d_keptSet d_count d_sources d_keys d_defaults d_usedKeys) := by rw [hw0]; exact hD
  have SS : CallFix p m c cX0_rewrite 5 s av.toArray wsX0_rewrite RX0 := ⟨hx, hb, hml, hown, hts⟩
  have hinX0 : ∀ w ∈ u_ws RX0 TX0 13, w ∈ wsX0_rewrite := by decide +kernel
  have lk45 := hts (.fieldLink RX0 45 "SignatureChanger$Calls" "count" "I") (List.mem_of_getElem? (i := 1) rfl)
  have cw56 : va_CN rmX0_rewrite s av.toArray RX0 56 yX8_contains RX8 cX8_contains 2 (some .boolean) wsX8_contains rmX8_contains 0 0 2 ∧ (Cond.static yX8_contains).before av.toArray s = true ∧ True := ⟨va_cnB 2 hts gX0_rewrite_X8_contains_n56 rfl rfl rfl (hKK.2.at 15 rfl) (hts (.initialized RX8) (List.mem_of_getElem? (i := 3) rfl)) (by decide +kernel) ⟨Nat.le_of_ble_eq_true rfl, Nat.le_of_ble_eq_true rfl⟩, hts (.static yX8_contains) (List.mem_of_getElem? (i := 2) rfl), trivial⟩
  have cw78 : CallW rmX0_rewrite s av.toArray RX0 RX0 78 yX0_hoist cX0_hoist 5 none wsX0_hoist rmX0_hoist 0 0 2 := cwV 2 hts gX0_rewrite_X0_hoist rfl rfl rfl (by decide +kernel) ⟨Nat.le_of_ble_eq_true rfl, Nat.le_of_ble_eq_true rfl⟩
  have cw82 : CallW rmX0_rewrite s av.toArray RX0 RX0 82 yX0_rearrange cX0_rearrange 5 none wsX0_rearrange rmX0_rearrange 0 0 2 := cwV 2 hts gX0_rewrite_X0_rearrange rfl rfl rfl (by decide +kernel) ⟨Nat.le_of_ble_eq_true rfl, Nat.le_of_ble_eq_true rfl⟩
  have F3 : ∀ (n : Nat) (H : Heap) (locs : List Loc) (k_argumentCounts : Nat → Int32) (k_temporaryCounts : Nat → Int32) (k_keys : Nat → Int32) (k_kinds : Nat → Int32) (k_values : Nat → Int32) (k_temporaryKinds : Nat → Int32) (k_newKinds : Nat → Int32) (k_newValues : Nat → Int32) (y1 : Int32) (y4 : Int32), lX0_rewrite_3 k_count q1_c d_count d_sources d_keys d_defaults n k_argumentCounts k_temporaryCounts k_keys k_kinds k_values k_temporaryKinds k_newKinds k_newValues y1 y4 = some (r_k_argumentCounts, r_k_temporaryCounts, r_k_keys, r_k_kinds, r_k_values, r_k_temporaryKinds, r_k_newKinds, r_k_newValues) → va_P D vwCl (W_k_q1_d cI cM a_k a_k_staticType a_k_dynamicType a_k_target a_k_argumentCounts a_k_temporaryCounts a_k_keys a_k_kinds a_k_values a_k_temporaryKinds a_k_newKinds a_k_newValues a_q1 a_d a_d_sources a_d_keys a_d_defaults k_count k_frozenSet k_staticType k_dynamicType k_target k_argumentCounts k_temporaryCounts k_keys k_kinds k_values k_temporaryKinds k_newKinds k_newValues q1_c d_open d_method d_family d_oldCount d_keptSet d_count d_sources d_keys d_defaults d_usedKeys) H → va_D (fun q => q ∈ (w0).map (·.1)) (W_k_q1_d cI cM a_k a_k_staticType a_k_dynamicType a_k_target a_k_argumentCounts a_k_temporaryCounts a_k_keys a_k_kinds a_k_values a_k_temporaryKinds a_k_newKinds a_k_newValues a_q1 a_d a_d_sources a_d_keys a_d_defaults k_count k_frozenSet k_staticType k_dynamicType k_target k_argumentCounts k_temporaryCounts k_keys k_kinds k_values k_temporaryKinds k_newKinds k_newValues q1_c d_open d_method d_family d_oldCount d_keptSet d_count d_sources d_keys d_defaults d_usedKeys) → va_S (fun q => q ∈ (w0).map (·.1)) s.heap H locs → ∀ ls : Array Slot, lv_has ls 5 [(0, .ref a_k), (1, .int y1), (2, .ref a_q1), (3, .ref a_d), (4, .int y4)] → WI p l e rmX0_rewrite s m av below meth c D w0 w1 none H locs 3 ls [] := by
    intro n
    induction n with
    | zero => intro H locs k_argumentCounts k_temporaryCounts k_keys k_kinds k_values k_temporaryKinds k_newKinds k_newValues y1 y4 h; exact no_some h
    | succ n ih =>
      intro H locs k_argumentCounts k_temporaryCounts k_keys k_kinds k_values k_temporaryKinds k_newKinds k_newValues y1 y4 h hP hD hS ls hl
      rw [lX0_rewrite_3_s] at h
      refine lv_iload hx hb dX0_rewrite_3 (lv_at hl 4 rfl) ?_
      refine lv_aload_n hx hb dX0_rewrite_5 rfl (lv_at hl 0 rfl) ?_
      refine va_get (D := D) (ci := 0) (v := .int k_count) (C := RX0) (T := TX0) (N := 13) hx hb hts hinX0 hown hKK.1 hP 0 rfl rfl 0 (by decide) lk45 (fun _ h9 => h9) rfl dX0_rewrite_6 ?_
      refine lv_icmp_ge (tgt := 44) hx hb dX0_rewrite_9 (by decide) (fun c1 => ?_) (fun c1 => ?_)
      · have h := ifp h c1
        simp only [Option.some.injEq, Prod.mk.injEq] at h
        obtain ⟨e0, e1, e2, e3, e4, e5, e6, e7⟩ := h
        exact kRetV hx hb hr hlk (by rw [← hw1, ← e0, ← e1, ← e2, ← e3, ← e4, ← e5, ← e6, ← e7]; exact hP) hS dX0_rewrite_44
      · have h := ifn h c1
        refine lv_iload_n hx hb dX0_rewrite_12 rfl (lv_at hl 1 rfl) ?_
        refine lv_iload hx hb dX0_rewrite_13 (lv_at hl 4 rfl) ?_
        obtain ⟨v2, ev2, h⟩ := bn_some h
        refine kSN (As := [.int y1, .int y4]) (rest := []) SS hKK (qX8_contains l D cI cM y1 y4 v2 ev2) cw56 va_P_nil rfl hl.1 rfl (Nat.le_of_ble_eq_true rfl) dX0_rewrite_15 ⟨Nat.zero_le _, Nat.zero_le _⟩ ?_
        refine lv_if_eq (tgt := 38) hx hb dX0_rewrite_18 (by decide) (fun c3 => ?_) (fun c3 => ?_)
        · have h := ifp h c3
          refine lv_iinc (v := y4 + 1) (lv' := [(4, .int (y4 + 1)), (0, .ref a_k), (1, .int y1), (2, .ref a_q1), (3, .ref a_d)]) hx hb dX0_rewrite_38 hl (k := 4) rfl rfl (by decide) rfl (fun ls hl => ?_)
          refine lv_goto (tgt := 3) hx hb dX0_rewrite_41 (by decide) ?_
          exact ih H locs k_argumentCounts k_temporaryCounts k_keys k_kinds k_values k_temporaryKinds k_newKinds k_newValues y1 (y4 + 1) h hP hD hS ls (lv_sub (l' := [(0, .ref a_k), (1, .int y1), (2, .ref a_q1), (3, .ref a_d), (4, .int (y4 + 1))]) hl [1, 2, 3, 4, 0] rfl)
        · have h := ifn h c3
          refine lv_aload_n hx hb dX0_rewrite_21 rfl (lv_at hl 0 rfl) ?_
          refine lv_iload hx hb dX0_rewrite_22 (lv_at hl 4 rfl) ?_
          refine lv_aload_n hx hb dX0_rewrite_24 rfl (lv_at hl 2 rfl) ?_
          refine lv_iload hx hb dX0_rewrite_25 (lv_at hl 4 rfl) ?_
          obtain ⟨v4, iv4, ev4, h⟩ := rd_some h
          refine kAld hx hb hKK hP 12 rfl iv4 ev4 dX0_rewrite_27 ?_
          obtain ⟨g5, g6, g7, g8, eg5, h⟩ := bn4_some h
          refine kVB (As := [.int y4, .int v4]) (rest := []) (st1 := []) (Bs := [B_k cI cM a_k a_k_staticType a_k_dynamicType a_k_target a_k_argumentCounts a_k_temporaryCounts a_k_keys a_k_kinds a_k_values a_k_temporaryKinds a_k_newKinds a_k_newValues k_count k_frozenSet k_staticType k_dynamicType k_target k_argumentCounts k_temporaryCounts k_keys k_kinds k_values k_temporaryKinds k_newKinds k_newValues, [(a_q1, .inl (cI, 8, .inl q1_c))], B_d cI cM a_d a_d_sources a_d_keys a_d_defaults d_open d_method d_family d_oldCount d_keptSet d_count d_sources d_keys d_defaults d_usedKeys]) (Bs1 := [B_k cI cM a_k a_k_staticType a_k_dynamicType a_k_target a_k_argumentCounts a_k_temporaryCounts a_k_keys a_k_kinds a_k_values a_k_temporaryKinds a_k_newKinds a_k_newValues k_count k_frozenSet k_staticType k_dynamicType k_target k_argumentCounts g5 k_keys g6 g7 g8 k_newKinds k_newValues, [(a_q1, .inl (cI, 8, .inl q1_c))], B_d cI cM a_d a_d_sources a_d_keys a_d_defaults d_open d_method d_family d_oldCount d_keptSet d_count d_sources d_keys d_defaults d_usedKeys]) SS hKK (qX0_hoist l D cI cM a_k a_k_staticType a_k_dynamicType a_k_target a_k_argumentCounts a_k_temporaryCounts a_k_keys a_k_kinds a_k_values a_k_temporaryKinds a_k_newKinds a_k_newValues k_count k_frozenSet k_staticType k_dynamicType k_target k_argumentCounts k_temporaryCounts k_keys k_kinds k_values k_temporaryKinds k_newKinds k_newValues y4 v4 g5 g6 g7 g8 eg5) cw78 hP hD hS (isC := [0]) (isR := [1, 2]) (C0 := [B_k cI cM a_k a_k_staticType a_k_dynamicType a_k_target a_k_argumentCounts a_k_temporaryCounts a_k_keys a_k_kinds a_k_values a_k_temporaryKinds a_k_newKinds a_k_newValues k_count k_frozenSet k_staticType k_dynamicType k_target k_argumentCounts k_temporaryCounts k_keys k_kinds k_values k_temporaryKinds k_newKinds k_newValues]) (C1 := [B_k cI cM a_k a_k_staticType a_k_dynamicType a_k_target a_k_argumentCounts a_k_temporaryCounts a_k_keys a_k_kinds a_k_values a_k_temporaryKinds a_k_newKinds a_k_newValues k_count k_frozenSet k_staticType k_dynamicType k_target k_argumentCounts g5 k_keys g6 g7 g8 k_newKinds k_newValues]) (Rr := [[(a_q1, .inl (cI, 8, .inl q1_c))], B_d cI cM a_d a_d_sources a_d_keys a_d_defaults d_open d_method d_family d_oldCount d_keptSet d_count d_sources d_keys d_defaults d_usedKeys]) (show (List.range 3).Perm ([0] ++ [1, 2]) by decide) rfl rfl rfl rfl rfl rfl rfl rfl 0 0 rfl rfl rfl hl.1 rfl (Nat.le_of_ble_eq_true rfl) dX0_rewrite_28 ⟨Nat.zero_le _, Nat.zero_le _⟩ rfl (fun H locs hP hD hS => ?_)
          have hP : va_P D vwCl (W_k_q1_d cI cM a_k a_k_staticType a_k_dynamicType a_k_target a_k_argumentCounts a_k_temporaryCounts a_k_keys a_k_kinds a_k_values a_k_temporaryKinds a_k_newKinds a_k_newValues a_q1 a_d a_d_sources a_d_keys a_d_defaults k_count k_frozenSet k_staticType k_dynamicType k_target k_argumentCounts g5 k_keys g6 g7 g8 k_newKinds k_newValues q1_c d_open d_method d_family d_oldCount d_keptSet d_count d_sources d_keys d_defaults d_usedKeys) H := hP
          have hD : va_D _ (W_k_q1_d cI cM a_k a_k_staticType a_k_dynamicType a_k_target a_k_argumentCounts a_k_temporaryCounts a_k_keys a_k_kinds a_k_values a_k_temporaryKinds a_k_newKinds a_k_newValues a_q1 a_d a_d_sources a_d_keys a_d_defaults k_count k_frozenSet k_staticType k_dynamicType k_target k_argumentCounts g5 k_keys g6 g7 g8 k_newKinds k_newValues q1_c d_open d_method d_family d_oldCount d_keptSet d_count d_sources d_keys d_defaults d_usedKeys) := hD
          refine lv_aload_n hx hb dX0_rewrite_31 rfl (lv_at hl 0 rfl) ?_
          refine lv_iload hx hb dX0_rewrite_32 (lv_at hl 4 rfl) ?_
          refine lv_aload_n hx hb dX0_rewrite_34 rfl (lv_at hl 3 rfl) ?_
          obtain ⟨g9, g10, g11, g12, g13, g14, eg9, h⟩ := bn6_some h
          refine kVB (As := [.int y4, .ref a_d]) (rest := []) (st1 := []) (Bs := [B_k cI cM a_k a_k_staticType a_k_dynamicType a_k_target a_k_argumentCounts a_k_temporaryCounts a_k_keys a_k_kinds a_k_values a_k_temporaryKinds a_k_newKinds a_k_newValues k_count k_frozenSet k_staticType k_dynamicType k_target k_argumentCounts g5 k_keys g6 g7 g8 k_newKinds k_newValues, [(a_q1, .inl (cI, 8, .inl q1_c))], B_d cI cM a_d a_d_sources a_d_keys a_d_defaults d_open d_method d_family d_oldCount d_keptSet d_count d_sources d_keys d_defaults d_usedKeys]) (Bs1 := [B_k cI cM a_k a_k_staticType a_k_dynamicType a_k_target a_k_argumentCounts a_k_temporaryCounts a_k_keys a_k_kinds a_k_values a_k_temporaryKinds a_k_newKinds a_k_newValues k_count k_frozenSet k_staticType k_dynamicType k_target g9 g5 g10 g11 g12 g8 g13 g14, [(a_q1, .inl (cI, 8, .inl q1_c))], B_d cI cM a_d a_d_sources a_d_keys a_d_defaults d_open d_method d_family d_oldCount d_keptSet d_count d_sources d_keys d_defaults d_usedKeys]) SS hKK (qX0_rearrange l D cI cM a_k a_k_staticType a_k_dynamicType a_k_target a_k_argumentCounts a_k_temporaryCounts a_k_keys a_k_kinds a_k_values a_k_temporaryKinds a_k_newKinds a_k_newValues a_d a_d_sources a_d_keys a_d_defaults k_count k_frozenSet k_staticType k_dynamicType k_target k_argumentCounts g5 k_keys g6 g7 g8 k_newKinds k_newValues d_open d_method d_family d_oldCount d_keptSet d_count d_sources d_keys d_defaults d_usedKeys y4 g9 g10 g11 g12 g13 g14 eg9) cw82 hP hD hS (isC := [0, 2]) (isR := [1]) (C0 := [B_k cI cM a_k a_k_staticType a_k_dynamicType a_k_target a_k_argumentCounts a_k_temporaryCounts a_k_keys a_k_kinds a_k_values a_k_temporaryKinds a_k_newKinds a_k_newValues k_count k_frozenSet k_staticType k_dynamicType k_target k_argumentCounts g5 k_keys g6 g7 g8 k_newKinds k_newValues, B_d cI cM a_d a_d_sources a_d_keys a_d_defaults d_open d_method d_family d_oldCount d_keptSet d_count d_sources d_keys d_defaults d_usedKeys]) (C1 := [B_k cI cM a_k a_k_staticType a_k_dynamicType a_k_target a_k_argumentCounts a_k_temporaryCounts a_k_keys a_k_kinds a_k_values a_k_temporaryKinds a_k_newKinds a_k_newValues k_count k_frozenSet k_staticType k_dynamicType k_target g9 g5 g10 g11 g12 g8 g13 g14, B_d cI cM a_d a_d_sources a_d_keys a_d_defaults d_open d_method d_family d_oldCount d_keptSet d_count d_sources d_keys d_defaults d_usedKeys]) (Rr := [[(a_q1, .inl (cI, 8, .inl q1_c))]]) (show (List.range 3).Perm ([0, 2] ++ [1]) by decide) rfl rfl rfl rfl rfl rfl rfl rfl 0 0 rfl rfl rfl hl.1 rfl (Nat.le_of_ble_eq_true rfl) dX0_rewrite_35 ⟨Nat.zero_le _, Nat.zero_le _⟩ rfl (fun H locs hP hD hS => ?_)
          have hP : va_P D vwCl (W_k_q1_d cI cM a_k a_k_staticType a_k_dynamicType a_k_target a_k_argumentCounts a_k_temporaryCounts a_k_keys a_k_kinds a_k_values a_k_temporaryKinds a_k_newKinds a_k_newValues a_q1 a_d a_d_sources a_d_keys a_d_defaults k_count k_frozenSet k_staticType k_dynamicType k_target g9 g5 g10 g11 g12 g8 g13 g14 q1_c d_open d_method d_family d_oldCount d_keptSet d_count d_sources d_keys d_defaults d_usedKeys) H := hP
          have hD : va_D _ (W_k_q1_d cI cM a_k a_k_staticType a_k_dynamicType a_k_target a_k_argumentCounts a_k_temporaryCounts a_k_keys a_k_kinds a_k_values a_k_temporaryKinds a_k_newKinds a_k_newValues a_q1 a_d a_d_sources a_d_keys a_d_defaults k_count k_frozenSet k_staticType k_dynamicType k_target g9 g5 g10 g11 g12 g8 g13 g14 q1_c d_open d_method d_family d_oldCount d_keptSet d_count d_sources d_keys d_defaults d_usedKeys) := hD
          refine lv_iinc (v := y4 + 1) (lv' := [(4, .int (y4 + 1)), (0, .ref a_k), (1, .int y1), (2, .ref a_q1), (3, .ref a_d)]) hx hb dX0_rewrite_38 hl (k := 4) rfl rfl (by decide) rfl (fun ls hl => ?_)
          refine lv_goto (tgt := 3) hx hb dX0_rewrite_41 (by decide) ?_
          exact ih H locs g9 g5 g10 g11 g12 g8 g13 g14 y1 (y4 + 1) h hP hD hS ls (lv_sub (l' := [(0, .ref a_k), (1, .int y1), (2, .ref a_q1), (3, .ref a_d), (4, .int (y4 + 1))]) hl [1, 2, 3, 4, 0] rfl)
  unfold fX0_rewrite at h
  refine lv_iconst (v := 0) hx hb dX0_rewrite_0 (by decide) ?_
  refine lv_istore (lv' := [(4, .int 0), (0, .ref a_k), (1, .int x1), (2, .ref a_q1), (3, .ref a_d)]) hx hb dX0_rewrite_1 hl (by decide) rfl (fun ls hl => ?_)
  exact F3 5000 s.heap [] k_argumentCounts k_temporaryCounts k_keys k_kinds k_values k_temporaryKinds k_newKinds k_newValues x1 0 h hP hD hS ls (lv_sub (l' := [(0, .ref a_k), (1, .int x1), (2, .ref a_q1), (3, .ref a_d), (4, .int 0)]) hl [1, 2, 3, 4, 0] rfl)
abbrev rmX8_copyRow : Room := { frames := 1, cells := 0, slots := 0, locals := 18 }
set_option maxHeartbeats 8000000 in
set_option maxRecDepth 100000 in
theorem qX8_copyRow (l : Launch) (D : va_G) (cI cM : ClassId) (a b n : Nat) (hn : n < 2 ^ 31) (f g : Nat → Int32) : IM l yX8_copyRow wsX8_copyRow rmX8_copyRow D cI cM [.ref a, .ref b] [(a, .inl (cI, n, .inl f)), (b, .inl (cI, n, .inl g))] [(a, .inl (cI, n, .inl f)), (b, .inl (cI, n, .inl f))] none := by
  refine IM.of (cc := cX8_copyRow) (maxL := 2) (ret := none) (by decide) rfl (Nat.le_of_ble_eq_true rfl) ?_
  intro p e s m below meth c ls hx hb hr hml hown hts hlk hKK hP hD hS hl
  have hown : s.vm.findClass RX8 = some m.cls := hown
  have hl : lv_has ls 2 [(0, .ref a), (1, .ref b)] := hl
  generalize hav : ([.ref a, .ref b] : List Value) = av at hts ⊢
  refine lv_aload_n hx hb dX8_copyRow_0 rfl (lv_at hl 0 rfl) ?_
  refine lv_iconst (v := 0) hx hb dX8_copyRow_1 (by decide) ?_
  refine lv_aload_n hx hb dX8_copyRow_2 rfl (lv_at hl 1 rfl) ?_
  refine lv_iconst (v := 0) hx hb dX8_copyRow_3 (by decide) ?_
  refine lv_aload_n hx hb dX8_copyRow_4 rfl (lv_at hl 0 rfl) ?_
  refine va_alen (v := nI n) hx hb hKK.1 hP 0 0 rfl rfl rfl dX8_copyRow_5 ?_
  refine lv_aload_n hx hb dX8_copyRow_6 rfl (lv_at hl 1 rfl) ?_
  refine va_alen (v := nI n) hx hb hKK.1 hP 1 0 rfl rfl rfl dX8_copyRow_7 ?_
  refine va_mmin hx hb (hml.trans hl.1.symm) hown (hts (.methodLink RX8 272 Lib.Math.min.name) (List.mem_of_getElem? (i := 1) rfl)) (hts (.static Lib.Math.min.name) (List.mem_of_getElem? (i := 2) rfl)) (hts (.initialized "java/lang/Math") (List.mem_of_getElem? (i := 3) rfl)) (hts (.code Lib.Math.min.name Lib.Math.min.code 2 (some .int)) (List.mem_of_getElem? (i := 4) rfl)) (Nat.le_of_ble_eq_true rfl) (Nat.le_of_ble_eq_true rfl) (Nat.zero_le _) (Nat.zero_le _) dX8_copyRow_8 ?_
  refine kNm (y := nI n) (by split <;> rfl) ?_
  refine va_copyi (ty := .int) hx hb (hml.trans hl.1.symm) hown (hts (.methodLink RX8 277 arraycopyName) (List.mem_of_getElem? (i := 5) rfl)) (hts (.native arraycopyName) (List.mem_of_getElem? (i := 6) rfl)) (hts (.static arraycopyName) (List.mem_of_getElem? (i := 7) rfl)) (hts (.initialized "java/lang/System") (List.mem_of_getElem? (i := 8) rfl)) hKK.1 hP hD hS 0 1 0 0 rfl rfl rfl rfl rfl (by decide) (by decide) (nI_pos hn) ?_ ?_ (fun _ _ => rfl) (Nat.le_of_ble_eq_true rfl) (Nat.le_of_ble_eq_true rfl) dX8_copyRow_11 (fun H locs hP hD hS => ?_)
  · rw [nI_clamp hn]; exact Nat.le_of_eq (Nat.zero_add n)
  · rw [nI_clamp hn]; exact Nat.le_of_eq (Nat.zero_add n)
  rw [nI_clamp hn] at hP
  refine kRetV hx hb hr hlk ?_ hS dX8_copyRow_14
  intro k q hq
  match k, hq with
  | 0, hq => cases hq; exact hP 0 _ rfl
  | 1, hq =>
    cases hq
    have h1 : H[b]? = some (vp_cell cI (n, .inl (va_cpy f g 0 0 n))) := hP 1 _ rfl
    refine h1.trans (congrArg some (cell_eq (fun k hk => ?_)))
    exact (pk_cpy_in (Nat.zero_le k) (by omega)).trans (by rw [Nat.zero_add, Nat.sub_zero])
  | k + 2, hq => simp at hq

set_option maxHeartbeats 8000000 in
set_option maxRecDepth 100000 in
theorem qX0_copyFrom (l : Launch) (D : va_G) (cI cM : ClassId) (a_k a_k_staticType a_k_dynamicType a_k_target a_k_argumentCounts a_k_temporaryCounts a_k_keys a_k_kinds a_k_values a_k_temporaryKinds a_k_newKinds a_k_newValues a_k2 a_k2_staticType a_k2_dynamicType a_k2_target a_k2_argumentCounts a_k2_temporaryCounts a_k2_keys a_k2_kinds a_k2_values a_k2_temporaryKinds a_k2_newKinds a_k2_newValues : Nat) (k_count : Int32) (k_frozenSet : Int32) (k_staticType : Nat → Int32) (k_dynamicType : Nat → Int32) (k_target : Nat → Int32) (k_argumentCounts : Nat → Int32) (k_temporaryCounts : Nat → Int32) (k_keys : Nat → Int32) (k_kinds : Nat → Int32) (k_values : Nat → Int32) (k_temporaryKinds : Nat → Int32) (k_newKinds : Nat → Int32) (k_newValues : Nat → Int32) (k2_count : Int32) (k2_frozenSet : Int32) (k2_staticType : Nat → Int32) (k2_dynamicType : Nat → Int32) (k2_target : Nat → Int32) (k2_argumentCounts : Nat → Int32) (k2_temporaryCounts : Nat → Int32) (k2_keys : Nat → Int32) (k2_kinds : Nat → Int32) (k2_values : Nat → Int32) (k2_temporaryKinds : Nat → Int32) (k2_newKinds : Nat → Int32) (k2_newValues : Nat → Int32) (r_k_count : Int32) (r_k_frozenSet : Int32) (r_k_staticType : Nat → Int32) (r_k_dynamicType : Nat → Int32) (r_k_target : Nat → Int32) (r_k_argumentCounts : Nat → Int32) (r_k_temporaryCounts : Nat → Int32) (r_k_keys : Nat → Int32) (r_k_kinds : Nat → Int32) (r_k_values : Nat → Int32) (r_k_temporaryKinds : Nat → Int32) (h : fX0_copyFrom k_count k_frozenSet k_staticType k_dynamicType k_target k_argumentCounts k_temporaryCounts k_keys k_kinds k_values k_temporaryKinds k2_count k2_frozenSet k2_staticType k2_dynamicType k2_target k2_argumentCounts k2_temporaryCounts k2_keys k2_kinds k2_values k2_temporaryKinds = some (r_k_count, r_k_frozenSet, r_k_staticType, r_k_dynamicType, r_k_target, r_k_argumentCounts, r_k_temporaryCounts, r_k_keys, r_k_kinds, r_k_values, r_k_temporaryKinds)) : IM l yX0_copyFrom wsX0_copyFrom rmX0_copyFrom D cI cM [.ref a_k, .ref a_k2] (W_k_k2 cI cM a_k a_k_staticType a_k_dynamicType a_k_target a_k_argumentCounts a_k_temporaryCounts a_k_keys a_k_kinds a_k_values a_k_temporaryKinds a_k_newKinds a_k_newValues a_k2 a_k2_staticType a_k2_dynamicType a_k2_target a_k2_argumentCounts a_k2_temporaryCounts a_k2_keys a_k2_kinds a_k2_values a_k2_temporaryKinds a_k2_newKinds a_k2_newValues k_count k_frozenSet k_staticType k_dynamicType k_target k_argumentCounts k_temporaryCounts k_keys k_kinds k_values k_temporaryKinds k_newKinds k_newValues k2_count k2_frozenSet k2_staticType k2_dynamicType k2_target k2_argumentCounts k2_temporaryCounts k2_keys k2_kinds k2_values k2_temporaryKinds k2_newKinds k2_newValues) (W_k_k2 cI cM a_k a_k_staticType a_k_dynamicType a_k_target a_k_argumentCounts a_k_temporaryCounts a_k_keys a_k_kinds a_k_values a_k_temporaryKinds a_k_newKinds a_k_newValues a_k2 a_k2_staticType a_k2_dynamicType a_k2_target a_k2_argumentCounts a_k2_temporaryCounts a_k2_keys a_k2_kinds a_k2_values a_k2_temporaryKinds a_k2_newKinds a_k2_newValues r_k_count r_k_frozenSet r_k_staticType r_k_dynamicType r_k_target r_k_argumentCounts r_k_temporaryCounts r_k_keys r_k_kinds r_k_values r_k_temporaryKinds k_newKinds k_newValues k2_count k2_frozenSet k2_staticType k2_dynamicType k2_target k2_argumentCounts k2_temporaryCounts k2_keys k2_kinds k2_values k2_temporaryKinds k2_newKinds k2_newValues) none := by
  refine IM.of (cc := cX0_copyFrom) (maxL := 2) (ret := none) (by decide) rfl (Nat.le_of_ble_eq_true rfl) ?_
  intro p e s m below meth c ls hx hb hr hml hown hts hlk hKK hP hD hS hl
  have hown : s.vm.findClass RX0 = some m.cls := hown
  have hl : lv_has ls 2 [(0, .ref a_k), (1, .ref a_k2)] := hl
  generalize hav : ([.ref a_k, .ref a_k2] : List Value) = av at hts ⊢
  generalize hw1 : W_k_k2 cI cM a_k a_k_staticType a_k_dynamicType a_k_target a_k_argumentCounts a_k_temporaryCounts a_k_keys a_k_kinds a_k_values a_k_temporaryKinds a_k_newKinds a_k_newValues a_k2 a_k2_staticType a_k2_dynamicType a_k2_target a_k2_argumentCounts a_k2_temporaryCounts a_k2_keys a_k2_kinds a_k2_values a_k2_temporaryKinds a_k2_newKinds a_k2_newValues r_k_count r_k_frozenSet r_k_staticType r_k_dynamicType r_k_target r_k_argumentCounts r_k_temporaryCounts r_k_keys r_k_kinds r_k_values r_k_temporaryKinds k_newKinds k_newValues k2_count k2_frozenSet k2_staticType k2_dynamicType k2_target k2_argumentCounts k2_temporaryCounts k2_keys k2_kinds k2_values k2_temporaryKinds k2_newKinds k2_newValues = w1
  generalize hw0 : W_k_k2 cI cM a_k a_k_staticType a_k_dynamicType a_k_target a_k_argumentCounts a_k_temporaryCounts a_k_keys a_k_kinds a_k_values a_k_temporaryKinds a_k_newKinds a_k_newValues a_k2 a_k2_staticType a_k2_dynamicType a_k2_target a_k2_argumentCounts a_k2_temporaryCounts a_k2_keys a_k2_kinds a_k2_values a_k2_temporaryKinds a_k2_newKinds a_k2_newValues k_count k_frozenSet k_staticType k_dynamicType k_target k_argumentCounts k_temporaryCounts k_keys k_kinds k_values k_temporaryKinds k_newKinds k_newValues k2_count k2_frozenSet k2_staticType k2_dynamicType k2_target k2_argumentCounts k2_temporaryCounts k2_keys k2_kinds k2_values k2_temporaryKinds k2_newKinds k2_newValues = w0 at hD hS ⊢
  have hP : va_P D vwCl (W_k_k2 cI cM a_k a_k_staticType a_k_dynamicType a_k_target a_k_argumentCounts a_k_temporaryCounts a_k_keys a_k_kinds a_k_values a_k_temporaryKinds a_k_newKinds a_k_newValues a_k2 a_k2_staticType a_k2_dynamicType a_k2_target a_k2_argumentCounts a_k2_temporaryCounts a_k2_keys a_k2_kinds a_k2_values a_k2_temporaryKinds a_k2_newKinds a_k2_newValues k_count k_frozenSet k_staticType k_dynamicType k_target k_argumentCounts k_temporaryCounts k_keys k_kinds k_values k_temporaryKinds k_newKinds k_newValues k2_count k2_frozenSet k2_staticType k2_dynamicType k2_target k2_argumentCounts k2_temporaryCounts k2_keys k2_kinds k2_values k2_temporaryKinds k2_newKinds k2_newValues) s.heap := hP
  have hD : va_D (fun q => q ∈ w0.map (·.1)) (W_k_k2 cI cM a_k a_k_staticType a_k_dynamicType a_k_target a_k_argumentCounts a_k_temporaryCounts a_k_keys a_k_kinds a_k_values a_k_temporaryKinds a_k_newKinds a_k_newValues a_k2 a_k2_staticType a_k2_dynamicType a_k2_target a_k2_argumentCounts a_k2_temporaryCounts a_k2_keys a_k2_kinds a_k2_values a_k2_temporaryKinds a_k2_newKinds a_k2_newValues k_count k_frozenSet k_staticType k_dynamicType k_target k_argumentCounts k_temporaryCounts k_keys k_kinds k_values k_temporaryKinds k_newKinds k_newValues k2_count k2_frozenSet k2_staticType k2_dynamicType k2_target k2_argumentCounts k2_temporaryCounts k2_keys k2_kinds k2_values k2_temporaryKinds k2_newKinds k2_newValues) := by rw [hw0]; exact hD
  have SS : CallFix p m c cX0_copyFrom 2 s av.toArray wsX0_copyFrom RX0 := ⟨hx, hb, hml, hown, hts⟩
  have hinX0 : ∀ w ∈ u_ws RX0 TX0 13, w ∈ wsX0_copyFrom := by decide +kernel
  have lk9 := hts (.fieldLink RX0 9 "SignatureChanger$Calls" "staticType" "[I") (List.mem_of_getElem? (i := 3) rfl)
  have lk15 := hts (.fieldLink RX0 15 "SignatureChanger$Calls" "dynamicType" "[I") (List.mem_of_getElem? (i := 4) rfl)
  have lk18 := hts (.fieldLink RX0 18 "SignatureChanger$Calls" "target" "[I") (List.mem_of_getElem? (i := 5) rfl)
  have lk21 := hts (.fieldLink RX0 21 "SignatureChanger$Calls" "argumentCounts" "[I") (List.mem_of_getElem? (i := 6) rfl)
  have lk24 := hts (.fieldLink RX0 24 "SignatureChanger$Calls" "temporaryCounts" "[I") (List.mem_of_getElem? (i := 7) rfl)
  have lk27 := hts (.fieldLink RX0 27 "SignatureChanger$Calls" "keys" "[I") (List.mem_of_getElem? (i := 8) rfl)
  have lk30 := hts (.fieldLink RX0 30 "SignatureChanger$Calls" "kinds" "[I") (List.mem_of_getElem? (i := 9) rfl)
  have lk33 := hts (.fieldLink RX0 33 "SignatureChanger$Calls" "values" "[I") (List.mem_of_getElem? (i := 10) rfl)
  have lk36 := hts (.fieldLink RX0 36 "SignatureChanger$Calls" "temporaryKinds" "[I") (List.mem_of_getElem? (i := 11) rfl)
  have lk45 := hts (.fieldLink RX0 45 "SignatureChanger$Calls" "count" "I") (List.mem_of_getElem? (i := 1) rfl)
  have lk53 := hts (.fieldLink RX0 53 "SignatureChanger$Calls" "frozenSet" "I") (List.mem_of_getElem? (i := 2) rfl)
  have cw102 : va_CN rmX0_copyFrom s av.toArray RX0 102 yX8_copyRow RX8 cX8_copyRow 2 none wsX8_copyRow rmX8_copyRow 0 0 2 ∧ (Cond.static yX8_copyRow).before av.toArray s = true ∧ True := ⟨va_cnB 2 hts gX0_copyFrom_X8_copyRow_n102 rfl rfl rfl (hKK.2.at 13 rfl) (hts (.initialized RX8) (List.mem_of_getElem? (i := 13) rfl)) (by decide +kernel) ⟨Nat.le_of_ble_eq_true rfl, Nat.le_of_ble_eq_true rfl⟩, hts (.static yX8_copyRow) (List.mem_of_getElem? (i := 12) rfl), trivial⟩
  unfold fX0_copyFrom at h
  refine lv_aload_n hx hb dX0_copyFrom_0 rfl (lv_at hl 0 rfl) ?_
  refine lv_aload_n hx hb dX0_copyFrom_1 rfl (lv_at hl 1 rfl) ?_
  refine va_get (D := D) (ci := 0) (v := .int k2_count) (C := RX0) (T := TX0) (N := 13) hx hb hts hinX0 hown hKK.1 hP 12 rfl rfl 0 (by decide) lk45 (fun _ h9 => h9) rfl dX0_copyFrom_2 ?_
  refine va_put (D := D) (ci := 0) (v := .int k2_count) (ty := .int) (C := RX0) (T := TX0) (N := 13) hx hb hts hinX0 tyX0 tyX0_ok nmX0 hown hKK.1 hP hD hS 0 rfl rfl 0 (by decide) lk45 (fun _ h9 => h9) rfl (by decide +kernel) rfl rfl (Nat.le_of_ble_eq_true rfl) dX0_copyFrom_5 (fun H locs hP hD hS => ?_)
  have hP : va_P D vwCl (W_k_k2 cI cM a_k a_k_staticType a_k_dynamicType a_k_target a_k_argumentCounts a_k_temporaryCounts a_k_keys a_k_kinds a_k_values a_k_temporaryKinds a_k_newKinds a_k_newValues a_k2 a_k2_staticType a_k2_dynamicType a_k2_target a_k2_argumentCounts a_k2_temporaryCounts a_k2_keys a_k2_kinds a_k2_values a_k2_temporaryKinds a_k2_newKinds a_k2_newValues k2_count k_frozenSet k_staticType k_dynamicType k_target k_argumentCounts k_temporaryCounts k_keys k_kinds k_values k_temporaryKinds k_newKinds k_newValues k2_count k2_frozenSet k2_staticType k2_dynamicType k2_target k2_argumentCounts k2_temporaryCounts k2_keys k2_kinds k2_values k2_temporaryKinds k2_newKinds k2_newValues) H := hP
  have hD : va_D _ (W_k_k2 cI cM a_k a_k_staticType a_k_dynamicType a_k_target a_k_argumentCounts a_k_temporaryCounts a_k_keys a_k_kinds a_k_values a_k_temporaryKinds a_k_newKinds a_k_newValues a_k2 a_k2_staticType a_k2_dynamicType a_k2_target a_k2_argumentCounts a_k2_temporaryCounts a_k2_keys a_k2_kinds a_k2_values a_k2_temporaryKinds a_k2_newKinds a_k2_newValues k2_count k_frozenSet k_staticType k_dynamicType k_target k_argumentCounts k_temporaryCounts k_keys k_kinds k_values k_temporaryKinds k_newKinds k_newValues k2_count k2_frozenSet k2_staticType k2_dynamicType k2_target k2_argumentCounts k2_temporaryCounts k2_keys k2_kinds k2_values k2_temporaryKinds k2_newKinds k2_newValues) := hD
  refine lv_aload_n hx hb dX0_copyFrom_8 rfl (lv_at hl 0 rfl) ?_
  refine lv_aload_n hx hb dX0_copyFrom_9 rfl (lv_at hl 1 rfl) ?_
  refine va_get (D := D) (ci := 0) (v := .int k2_frozenSet) (C := RX0) (T := TX0) (N := 13) hx hb hts hinX0 hown hKK.1 hP 12 rfl rfl 1 (by decide) lk53 (fun _ h9 => h9) rfl dX0_copyFrom_10 ?_
  refine va_put (D := D) (ci := 0) (v := .int k2_frozenSet) (ty := .int) (C := RX0) (T := TX0) (N := 13) hx hb hts hinX0 tyX0 tyX0_ok nmX0 hown hKK.1 hP hD hS 0 rfl rfl 1 (by decide) lk53 (fun _ h9 => h9) rfl (by decide +kernel) rfl rfl (Nat.le_of_ble_eq_true rfl) dX0_copyFrom_13 (fun H locs hP hD hS => ?_)
  have hP : va_P D vwCl (W_k_k2 cI cM a_k a_k_staticType a_k_dynamicType a_k_target a_k_argumentCounts a_k_temporaryCounts a_k_keys a_k_kinds a_k_values a_k_temporaryKinds a_k_newKinds a_k_newValues a_k2 a_k2_staticType a_k2_dynamicType a_k2_target a_k2_argumentCounts a_k2_temporaryCounts a_k2_keys a_k2_kinds a_k2_values a_k2_temporaryKinds a_k2_newKinds a_k2_newValues k2_count k2_frozenSet k_staticType k_dynamicType k_target k_argumentCounts k_temporaryCounts k_keys k_kinds k_values k_temporaryKinds k_newKinds k_newValues k2_count k2_frozenSet k2_staticType k2_dynamicType k2_target k2_argumentCounts k2_temporaryCounts k2_keys k2_kinds k2_values k2_temporaryKinds k2_newKinds k2_newValues) H := hP
  have hD : va_D _ (W_k_k2 cI cM a_k a_k_staticType a_k_dynamicType a_k_target a_k_argumentCounts a_k_temporaryCounts a_k_keys a_k_kinds a_k_values a_k_temporaryKinds a_k_newKinds a_k_newValues a_k2 a_k2_staticType a_k2_dynamicType a_k2_target a_k2_argumentCounts a_k2_temporaryCounts a_k2_keys a_k2_kinds a_k2_values a_k2_temporaryKinds a_k2_newKinds a_k2_newValues k2_count k2_frozenSet k_staticType k_dynamicType k_target k_argumentCounts k_temporaryCounts k_keys k_kinds k_values k_temporaryKinds k_newKinds k_newValues k2_count k2_frozenSet k2_staticType k2_dynamicType k2_target k2_argumentCounts k2_temporaryCounts k2_keys k2_kinds k2_values k2_temporaryKinds k2_newKinds k2_newValues) := hD
  refine lv_aload_n hx hb dX0_copyFrom_16 rfl (lv_at hl 1 rfl) ?_
  refine va_get (D := D) (ci := 0) (v := .ref a_k2_staticType) (C := RX0) (T := TX0) (N := 13) hx hb hts hinX0 hown hKK.1 hP 12 rfl rfl 2 (by decide) lk9 (fun _ h9 => h9) rfl dX0_copyFrom_17 ?_
  refine lv_aload_n hx hb dX0_copyFrom_20 rfl (lv_at hl 0 rfl) ?_
  refine va_get (D := D) (ci := 0) (v := .ref a_k_staticType) (C := RX0) (T := TX0) (N := 13) hx hb hts hinX0 hown hKK.1 hP 0 rfl rfl 2 (by decide) lk9 (fun _ h9 => h9) rfl dX0_copyFrom_21 ?_
  refine kSNI (As := [.ref a_k2_staticType, .ref a_k_staticType]) (rest := []) (st1 := []) SS hKK (qX8_copyRow l D cI cM a_k2_staticType a_k_staticType 8 (by decide) k2_staticType k_staticType) cw102 hP hD hS [13, 1] rfl rfl rfl rfl rfl hl.1 rfl (Nat.le_of_ble_eq_true rfl) dX0_copyFrom_24 ⟨Nat.zero_le _, Nat.zero_le _⟩ rfl (fun H locs hP hD hS => ?_)
  have hP : va_P D vwCl (W_k_k2 cI cM a_k a_k_staticType a_k_dynamicType a_k_target a_k_argumentCounts a_k_temporaryCounts a_k_keys a_k_kinds a_k_values a_k_temporaryKinds a_k_newKinds a_k_newValues a_k2 a_k2_staticType a_k2_dynamicType a_k2_target a_k2_argumentCounts a_k2_temporaryCounts a_k2_keys a_k2_kinds a_k2_values a_k2_temporaryKinds a_k2_newKinds a_k2_newValues k2_count k2_frozenSet k2_staticType k_dynamicType k_target k_argumentCounts k_temporaryCounts k_keys k_kinds k_values k_temporaryKinds k_newKinds k_newValues k2_count k2_frozenSet k2_staticType k2_dynamicType k2_target k2_argumentCounts k2_temporaryCounts k2_keys k2_kinds k2_values k2_temporaryKinds k2_newKinds k2_newValues) H := hP
  have hD : va_D _ (W_k_k2 cI cM a_k a_k_staticType a_k_dynamicType a_k_target a_k_argumentCounts a_k_temporaryCounts a_k_keys a_k_kinds a_k_values a_k_temporaryKinds a_k_newKinds a_k_newValues a_k2 a_k2_staticType a_k2_dynamicType a_k2_target a_k2_argumentCounts a_k2_temporaryCounts a_k2_keys a_k2_kinds a_k2_values a_k2_temporaryKinds a_k2_newKinds a_k2_newValues k2_count k2_frozenSet k2_staticType k_dynamicType k_target k_argumentCounts k_temporaryCounts k_keys k_kinds k_values k_temporaryKinds k_newKinds k_newValues k2_count k2_frozenSet k2_staticType k2_dynamicType k2_target k2_argumentCounts k2_temporaryCounts k2_keys k2_kinds k2_values k2_temporaryKinds k2_newKinds k2_newValues) := hD
  refine lv_aload_n hx hb dX0_copyFrom_27 rfl (lv_at hl 1 rfl) ?_
  refine va_get (D := D) (ci := 0) (v := .ref a_k2_dynamicType) (C := RX0) (T := TX0) (N := 13) hx hb hts hinX0 hown hKK.1 hP 12 rfl rfl 3 (by decide) lk15 (fun _ h9 => h9) rfl dX0_copyFrom_28 ?_
  refine lv_aload_n hx hb dX0_copyFrom_31 rfl (lv_at hl 0 rfl) ?_
  refine va_get (D := D) (ci := 0) (v := .ref a_k_dynamicType) (C := RX0) (T := TX0) (N := 13) hx hb hts hinX0 hown hKK.1 hP 0 rfl rfl 3 (by decide) lk15 (fun _ h9 => h9) rfl dX0_copyFrom_32 ?_
  refine kSNI (As := [.ref a_k2_dynamicType, .ref a_k_dynamicType]) (rest := []) (st1 := []) SS hKK (qX8_copyRow l D cI cM a_k2_dynamicType a_k_dynamicType 8 (by decide) k2_dynamicType k_dynamicType) cw102 hP hD hS [14, 2] rfl rfl rfl rfl rfl hl.1 rfl (Nat.le_of_ble_eq_true rfl) dX0_copyFrom_35 ⟨Nat.zero_le _, Nat.zero_le _⟩ rfl (fun H locs hP hD hS => ?_)
  have hP : va_P D vwCl (W_k_k2 cI cM a_k a_k_staticType a_k_dynamicType a_k_target a_k_argumentCounts a_k_temporaryCounts a_k_keys a_k_kinds a_k_values a_k_temporaryKinds a_k_newKinds a_k_newValues a_k2 a_k2_staticType a_k2_dynamicType a_k2_target a_k2_argumentCounts a_k2_temporaryCounts a_k2_keys a_k2_kinds a_k2_values a_k2_temporaryKinds a_k2_newKinds a_k2_newValues k2_count k2_frozenSet k2_staticType k2_dynamicType k_target k_argumentCounts k_temporaryCounts k_keys k_kinds k_values k_temporaryKinds k_newKinds k_newValues k2_count k2_frozenSet k2_staticType k2_dynamicType k2_target k2_argumentCounts k2_temporaryCounts k2_keys k2_kinds k2_values k2_temporaryKinds k2_newKinds k2_newValues) H := hP
  have hD : va_D _ (W_k_k2 cI cM a_k a_k_staticType a_k_dynamicType a_k_target a_k_argumentCounts a_k_temporaryCounts a_k_keys a_k_kinds a_k_values a_k_temporaryKinds a_k_newKinds a_k_newValues a_k2 a_k2_staticType a_k2_dynamicType a_k2_target a_k2_argumentCounts a_k2_temporaryCounts a_k2_keys a_k2_kinds a_k2_values a_k2_temporaryKinds a_k2_newKinds a_k2_newValues k2_count k2_frozenSet k2_staticType k2_dynamicType k_target k_argumentCounts k_temporaryCounts k_keys k_kinds k_values k_temporaryKinds k_newKinds k_newValues k2_count k2_frozenSet k2_staticType k2_dynamicType k2_target k2_argumentCounts k2_temporaryCounts k2_keys k2_kinds k2_values k2_temporaryKinds k2_newKinds k2_newValues) := hD
  refine lv_aload_n hx hb dX0_copyFrom_38 rfl (lv_at hl 1 rfl) ?_
  refine va_get (D := D) (ci := 0) (v := .ref a_k2_target) (C := RX0) (T := TX0) (N := 13) hx hb hts hinX0 hown hKK.1 hP 12 rfl rfl 4 (by decide) lk18 (fun _ h9 => h9) rfl dX0_copyFrom_39 ?_
  refine lv_aload_n hx hb dX0_copyFrom_42 rfl (lv_at hl 0 rfl) ?_
  refine va_get (D := D) (ci := 0) (v := .ref a_k_target) (C := RX0) (T := TX0) (N := 13) hx hb hts hinX0 hown hKK.1 hP 0 rfl rfl 4 (by decide) lk18 (fun _ h9 => h9) rfl dX0_copyFrom_43 ?_
  refine kSNI (As := [.ref a_k2_target, .ref a_k_target]) (rest := []) (st1 := []) SS hKK (qX8_copyRow l D cI cM a_k2_target a_k_target 8 (by decide) k2_target k_target) cw102 hP hD hS [15, 3] rfl rfl rfl rfl rfl hl.1 rfl (Nat.le_of_ble_eq_true rfl) dX0_copyFrom_46 ⟨Nat.zero_le _, Nat.zero_le _⟩ rfl (fun H locs hP hD hS => ?_)
  have hP : va_P D vwCl (W_k_k2 cI cM a_k a_k_staticType a_k_dynamicType a_k_target a_k_argumentCounts a_k_temporaryCounts a_k_keys a_k_kinds a_k_values a_k_temporaryKinds a_k_newKinds a_k_newValues a_k2 a_k2_staticType a_k2_dynamicType a_k2_target a_k2_argumentCounts a_k2_temporaryCounts a_k2_keys a_k2_kinds a_k2_values a_k2_temporaryKinds a_k2_newKinds a_k2_newValues k2_count k2_frozenSet k2_staticType k2_dynamicType k2_target k_argumentCounts k_temporaryCounts k_keys k_kinds k_values k_temporaryKinds k_newKinds k_newValues k2_count k2_frozenSet k2_staticType k2_dynamicType k2_target k2_argumentCounts k2_temporaryCounts k2_keys k2_kinds k2_values k2_temporaryKinds k2_newKinds k2_newValues) H := hP
  have hD : va_D _ (W_k_k2 cI cM a_k a_k_staticType a_k_dynamicType a_k_target a_k_argumentCounts a_k_temporaryCounts a_k_keys a_k_kinds a_k_values a_k_temporaryKinds a_k_newKinds a_k_newValues a_k2 a_k2_staticType a_k2_dynamicType a_k2_target a_k2_argumentCounts a_k2_temporaryCounts a_k2_keys a_k2_kinds a_k2_values a_k2_temporaryKinds a_k2_newKinds a_k2_newValues k2_count k2_frozenSet k2_staticType k2_dynamicType k2_target k_argumentCounts k_temporaryCounts k_keys k_kinds k_values k_temporaryKinds k_newKinds k_newValues k2_count k2_frozenSet k2_staticType k2_dynamicType k2_target k2_argumentCounts k2_temporaryCounts k2_keys k2_kinds k2_values k2_temporaryKinds k2_newKinds k2_newValues) := hD
  refine lv_aload_n hx hb dX0_copyFrom_49 rfl (lv_at hl 1 rfl) ?_
  refine va_get (D := D) (ci := 0) (v := .ref a_k2_argumentCounts) (C := RX0) (T := TX0) (N := 13) hx hb hts hinX0 hown hKK.1 hP 12 rfl rfl 5 (by decide) lk21 (fun _ h9 => h9) rfl dX0_copyFrom_50 ?_
  refine lv_aload_n hx hb dX0_copyFrom_53 rfl (lv_at hl 0 rfl) ?_
  refine va_get (D := D) (ci := 0) (v := .ref a_k_argumentCounts) (C := RX0) (T := TX0) (N := 13) hx hb hts hinX0 hown hKK.1 hP 0 rfl rfl 5 (by decide) lk21 (fun _ h9 => h9) rfl dX0_copyFrom_54 ?_
  refine kSNI (As := [.ref a_k2_argumentCounts, .ref a_k_argumentCounts]) (rest := []) (st1 := []) SS hKK (qX8_copyRow l D cI cM a_k2_argumentCounts a_k_argumentCounts 8 (by decide) k2_argumentCounts k_argumentCounts) cw102 hP hD hS [16, 4] rfl rfl rfl rfl rfl hl.1 rfl (Nat.le_of_ble_eq_true rfl) dX0_copyFrom_57 ⟨Nat.zero_le _, Nat.zero_le _⟩ rfl (fun H locs hP hD hS => ?_)
  have hP : va_P D vwCl (W_k_k2 cI cM a_k a_k_staticType a_k_dynamicType a_k_target a_k_argumentCounts a_k_temporaryCounts a_k_keys a_k_kinds a_k_values a_k_temporaryKinds a_k_newKinds a_k_newValues a_k2 a_k2_staticType a_k2_dynamicType a_k2_target a_k2_argumentCounts a_k2_temporaryCounts a_k2_keys a_k2_kinds a_k2_values a_k2_temporaryKinds a_k2_newKinds a_k2_newValues k2_count k2_frozenSet k2_staticType k2_dynamicType k2_target k2_argumentCounts k_temporaryCounts k_keys k_kinds k_values k_temporaryKinds k_newKinds k_newValues k2_count k2_frozenSet k2_staticType k2_dynamicType k2_target k2_argumentCounts k2_temporaryCounts k2_keys k2_kinds k2_values k2_temporaryKinds k2_newKinds k2_newValues) H := hP
  have hD : va_D _ (W_k_k2 cI cM a_k a_k_staticType a_k_dynamicType a_k_target a_k_argumentCounts a_k_temporaryCounts a_k_keys a_k_kinds a_k_values a_k_temporaryKinds a_k_newKinds a_k_newValues a_k2 a_k2_staticType a_k2_dynamicType a_k2_target a_k2_argumentCounts a_k2_temporaryCounts a_k2_keys a_k2_kinds a_k2_values a_k2_temporaryKinds a_k2_newKinds a_k2_newValues k2_count k2_frozenSet k2_staticType k2_dynamicType k2_target k2_argumentCounts k_temporaryCounts k_keys k_kinds k_values k_temporaryKinds k_newKinds k_newValues k2_count k2_frozenSet k2_staticType k2_dynamicType k2_target k2_argumentCounts k2_temporaryCounts k2_keys k2_kinds k2_values k2_temporaryKinds k2_newKinds k2_newValues) := hD
  refine lv_aload_n hx hb dX0_copyFrom_60 rfl (lv_at hl 1 rfl) ?_
  refine va_get (D := D) (ci := 0) (v := .ref a_k2_temporaryCounts) (C := RX0) (T := TX0) (N := 13) hx hb hts hinX0 hown hKK.1 hP 12 rfl rfl 6 (by decide) lk24 (fun _ h9 => h9) rfl dX0_copyFrom_61 ?_
  refine lv_aload_n hx hb dX0_copyFrom_64 rfl (lv_at hl 0 rfl) ?_
  refine va_get (D := D) (ci := 0) (v := .ref a_k_temporaryCounts) (C := RX0) (T := TX0) (N := 13) hx hb hts hinX0 hown hKK.1 hP 0 rfl rfl 6 (by decide) lk24 (fun _ h9 => h9) rfl dX0_copyFrom_65 ?_
  refine kSNI (As := [.ref a_k2_temporaryCounts, .ref a_k_temporaryCounts]) (rest := []) (st1 := []) SS hKK (qX8_copyRow l D cI cM a_k2_temporaryCounts a_k_temporaryCounts 8 (by decide) k2_temporaryCounts k_temporaryCounts) cw102 hP hD hS [17, 5] rfl rfl rfl rfl rfl hl.1 rfl (Nat.le_of_ble_eq_true rfl) dX0_copyFrom_68 ⟨Nat.zero_le _, Nat.zero_le _⟩ rfl (fun H locs hP hD hS => ?_)
  have hP : va_P D vwCl (W_k_k2 cI cM a_k a_k_staticType a_k_dynamicType a_k_target a_k_argumentCounts a_k_temporaryCounts a_k_keys a_k_kinds a_k_values a_k_temporaryKinds a_k_newKinds a_k_newValues a_k2 a_k2_staticType a_k2_dynamicType a_k2_target a_k2_argumentCounts a_k2_temporaryCounts a_k2_keys a_k2_kinds a_k2_values a_k2_temporaryKinds a_k2_newKinds a_k2_newValues k2_count k2_frozenSet k2_staticType k2_dynamicType k2_target k2_argumentCounts k2_temporaryCounts k_keys k_kinds k_values k_temporaryKinds k_newKinds k_newValues k2_count k2_frozenSet k2_staticType k2_dynamicType k2_target k2_argumentCounts k2_temporaryCounts k2_keys k2_kinds k2_values k2_temporaryKinds k2_newKinds k2_newValues) H := hP
  have hD : va_D _ (W_k_k2 cI cM a_k a_k_staticType a_k_dynamicType a_k_target a_k_argumentCounts a_k_temporaryCounts a_k_keys a_k_kinds a_k_values a_k_temporaryKinds a_k_newKinds a_k_newValues a_k2 a_k2_staticType a_k2_dynamicType a_k2_target a_k2_argumentCounts a_k2_temporaryCounts a_k2_keys a_k2_kinds a_k2_values a_k2_temporaryKinds a_k2_newKinds a_k2_newValues k2_count k2_frozenSet k2_staticType k2_dynamicType k2_target k2_argumentCounts k2_temporaryCounts k_keys k_kinds k_values k_temporaryKinds k_newKinds k_newValues k2_count k2_frozenSet k2_staticType k2_dynamicType k2_target k2_argumentCounts k2_temporaryCounts k2_keys k2_kinds k2_values k2_temporaryKinds k2_newKinds k2_newValues) := hD
  refine lv_aload_n hx hb dX0_copyFrom_71 rfl (lv_at hl 1 rfl) ?_
  refine va_get (D := D) (ci := 0) (v := .ref a_k2_keys) (C := RX0) (T := TX0) (N := 13) hx hb hts hinX0 hown hKK.1 hP 12 rfl rfl 7 (by decide) lk27 (fun _ h9 => h9) rfl dX0_copyFrom_72 ?_
  refine lv_aload_n hx hb dX0_copyFrom_75 rfl (lv_at hl 0 rfl) ?_
  refine va_get (D := D) (ci := 0) (v := .ref a_k_keys) (C := RX0) (T := TX0) (N := 13) hx hb hts hinX0 hown hKK.1 hP 0 rfl rfl 7 (by decide) lk27 (fun _ h9 => h9) rfl dX0_copyFrom_76 ?_
  refine kSNI (As := [.ref a_k2_keys, .ref a_k_keys]) (rest := []) (st1 := []) SS hKK (qX8_copyRow l D cI cM a_k2_keys a_k_keys 40 (by decide) k2_keys k_keys) cw102 hP hD hS [18, 6] rfl rfl rfl rfl rfl hl.1 rfl (Nat.le_of_ble_eq_true rfl) dX0_copyFrom_79 ⟨Nat.zero_le _, Nat.zero_le _⟩ rfl (fun H locs hP hD hS => ?_)
  have hP : va_P D vwCl (W_k_k2 cI cM a_k a_k_staticType a_k_dynamicType a_k_target a_k_argumentCounts a_k_temporaryCounts a_k_keys a_k_kinds a_k_values a_k_temporaryKinds a_k_newKinds a_k_newValues a_k2 a_k2_staticType a_k2_dynamicType a_k2_target a_k2_argumentCounts a_k2_temporaryCounts a_k2_keys a_k2_kinds a_k2_values a_k2_temporaryKinds a_k2_newKinds a_k2_newValues k2_count k2_frozenSet k2_staticType k2_dynamicType k2_target k2_argumentCounts k2_temporaryCounts k2_keys k_kinds k_values k_temporaryKinds k_newKinds k_newValues k2_count k2_frozenSet k2_staticType k2_dynamicType k2_target k2_argumentCounts k2_temporaryCounts k2_keys k2_kinds k2_values k2_temporaryKinds k2_newKinds k2_newValues) H := hP
  have hD : va_D _ (W_k_k2 cI cM a_k a_k_staticType a_k_dynamicType a_k_target a_k_argumentCounts a_k_temporaryCounts a_k_keys a_k_kinds a_k_values a_k_temporaryKinds a_k_newKinds a_k_newValues a_k2 a_k2_staticType a_k2_dynamicType a_k2_target a_k2_argumentCounts a_k2_temporaryCounts a_k2_keys a_k2_kinds a_k2_values a_k2_temporaryKinds a_k2_newKinds a_k2_newValues k2_count k2_frozenSet k2_staticType k2_dynamicType k2_target k2_argumentCounts k2_temporaryCounts k2_keys k_kinds k_values k_temporaryKinds k_newKinds k_newValues k2_count k2_frozenSet k2_staticType k2_dynamicType k2_target k2_argumentCounts k2_temporaryCounts k2_keys k2_kinds k2_values k2_temporaryKinds k2_newKinds k2_newValues) := hD
  refine lv_aload_n hx hb dX0_copyFrom_82 rfl (lv_at hl 1 rfl) ?_
  refine va_get (D := D) (ci := 0) (v := .ref a_k2_kinds) (C := RX0) (T := TX0) (N := 13) hx hb hts hinX0 hown hKK.1 hP 12 rfl rfl 8 (by decide) lk30 (fun _ h9 => h9) rfl dX0_copyFrom_83 ?_
  refine lv_aload_n hx hb dX0_copyFrom_86 rfl (lv_at hl 0 rfl) ?_
  refine va_get (D := D) (ci := 0) (v := .ref a_k_kinds) (C := RX0) (T := TX0) (N := 13) hx hb hts hinX0 hown hKK.1 hP 0 rfl rfl 8 (by decide) lk30 (fun _ h9 => h9) rfl dX0_copyFrom_87 ?_
  refine kSNI (As := [.ref a_k2_kinds, .ref a_k_kinds]) (rest := []) (st1 := []) SS hKK (qX8_copyRow l D cI cM a_k2_kinds a_k_kinds 40 (by decide) k2_kinds k_kinds) cw102 hP hD hS [19, 7] rfl rfl rfl rfl rfl hl.1 rfl (Nat.le_of_ble_eq_true rfl) dX0_copyFrom_90 ⟨Nat.zero_le _, Nat.zero_le _⟩ rfl (fun H locs hP hD hS => ?_)
  have hP : va_P D vwCl (W_k_k2 cI cM a_k a_k_staticType a_k_dynamicType a_k_target a_k_argumentCounts a_k_temporaryCounts a_k_keys a_k_kinds a_k_values a_k_temporaryKinds a_k_newKinds a_k_newValues a_k2 a_k2_staticType a_k2_dynamicType a_k2_target a_k2_argumentCounts a_k2_temporaryCounts a_k2_keys a_k2_kinds a_k2_values a_k2_temporaryKinds a_k2_newKinds a_k2_newValues k2_count k2_frozenSet k2_staticType k2_dynamicType k2_target k2_argumentCounts k2_temporaryCounts k2_keys k2_kinds k_values k_temporaryKinds k_newKinds k_newValues k2_count k2_frozenSet k2_staticType k2_dynamicType k2_target k2_argumentCounts k2_temporaryCounts k2_keys k2_kinds k2_values k2_temporaryKinds k2_newKinds k2_newValues) H := hP
  have hD : va_D _ (W_k_k2 cI cM a_k a_k_staticType a_k_dynamicType a_k_target a_k_argumentCounts a_k_temporaryCounts a_k_keys a_k_kinds a_k_values a_k_temporaryKinds a_k_newKinds a_k_newValues a_k2 a_k2_staticType a_k2_dynamicType a_k2_target a_k2_argumentCounts a_k2_temporaryCounts a_k2_keys a_k2_kinds a_k2_values a_k2_temporaryKinds a_k2_newKinds a_k2_newValues k2_count k2_frozenSet k2_staticType k2_dynamicType k2_target k2_argumentCounts k2_temporaryCounts k2_keys k2_kinds k_values k_temporaryKinds k_newKinds k_newValues k2_count k2_frozenSet k2_staticType k2_dynamicType k2_target k2_argumentCounts k2_temporaryCounts k2_keys k2_kinds k2_values k2_temporaryKinds k2_newKinds k2_newValues) := hD
  refine lv_aload_n hx hb dX0_copyFrom_93 rfl (lv_at hl 1 rfl) ?_
  refine va_get (D := D) (ci := 0) (v := .ref a_k2_values) (C := RX0) (T := TX0) (N := 13) hx hb hts hinX0 hown hKK.1 hP 12 rfl rfl 9 (by decide) lk33 (fun _ h9 => h9) rfl dX0_copyFrom_94 ?_
  refine lv_aload_n hx hb dX0_copyFrom_97 rfl (lv_at hl 0 rfl) ?_
  refine va_get (D := D) (ci := 0) (v := .ref a_k_values) (C := RX0) (T := TX0) (N := 13) hx hb hts hinX0 hown hKK.1 hP 0 rfl rfl 9 (by decide) lk33 (fun _ h9 => h9) rfl dX0_copyFrom_98 ?_
  refine kSNI (As := [.ref a_k2_values, .ref a_k_values]) (rest := []) (st1 := []) SS hKK (qX8_copyRow l D cI cM a_k2_values a_k_values 40 (by decide) k2_values k_values) cw102 hP hD hS [20, 8] rfl rfl rfl rfl rfl hl.1 rfl (Nat.le_of_ble_eq_true rfl) dX0_copyFrom_101 ⟨Nat.zero_le _, Nat.zero_le _⟩ rfl (fun H locs hP hD hS => ?_)
  have hP : va_P D vwCl (W_k_k2 cI cM a_k a_k_staticType a_k_dynamicType a_k_target a_k_argumentCounts a_k_temporaryCounts a_k_keys a_k_kinds a_k_values a_k_temporaryKinds a_k_newKinds a_k_newValues a_k2 a_k2_staticType a_k2_dynamicType a_k2_target a_k2_argumentCounts a_k2_temporaryCounts a_k2_keys a_k2_kinds a_k2_values a_k2_temporaryKinds a_k2_newKinds a_k2_newValues k2_count k2_frozenSet k2_staticType k2_dynamicType k2_target k2_argumentCounts k2_temporaryCounts k2_keys k2_kinds k2_values k_temporaryKinds k_newKinds k_newValues k2_count k2_frozenSet k2_staticType k2_dynamicType k2_target k2_argumentCounts k2_temporaryCounts k2_keys k2_kinds k2_values k2_temporaryKinds k2_newKinds k2_newValues) H := hP
  have hD : va_D _ (W_k_k2 cI cM a_k a_k_staticType a_k_dynamicType a_k_target a_k_argumentCounts a_k_temporaryCounts a_k_keys a_k_kinds a_k_values a_k_temporaryKinds a_k_newKinds a_k_newValues a_k2 a_k2_staticType a_k2_dynamicType a_k2_target a_k2_argumentCounts a_k2_temporaryCounts a_k2_keys a_k2_kinds a_k2_values a_k2_temporaryKinds a_k2_newKinds a_k2_newValues k2_count k2_frozenSet k2_staticType k2_dynamicType k2_target k2_argumentCounts k2_temporaryCounts k2_keys k2_kinds k2_values k_temporaryKinds k_newKinds k_newValues k2_count k2_frozenSet k2_staticType k2_dynamicType k2_target k2_argumentCounts k2_temporaryCounts k2_keys k2_kinds k2_values k2_temporaryKinds k2_newKinds k2_newValues) := hD
  refine lv_aload_n hx hb dX0_copyFrom_104 rfl (lv_at hl 1 rfl) ?_
  refine va_get (D := D) (ci := 0) (v := .ref a_k2_temporaryKinds) (C := RX0) (T := TX0) (N := 13) hx hb hts hinX0 hown hKK.1 hP 12 rfl rfl 10 (by decide) lk36 (fun _ h9 => h9) rfl dX0_copyFrom_105 ?_
  refine lv_aload_n hx hb dX0_copyFrom_108 rfl (lv_at hl 0 rfl) ?_
  refine va_get (D := D) (ci := 0) (v := .ref a_k_temporaryKinds) (C := RX0) (T := TX0) (N := 13) hx hb hts hinX0 hown hKK.1 hP 0 rfl rfl 10 (by decide) lk36 (fun _ h9 => h9) rfl dX0_copyFrom_109 ?_
  refine kSNI (As := [.ref a_k2_temporaryKinds, .ref a_k_temporaryKinds]) (rest := []) (st1 := []) SS hKK (qX8_copyRow l D cI cM a_k2_temporaryKinds a_k_temporaryKinds 64 (by decide) k2_temporaryKinds k_temporaryKinds) cw102 hP hD hS [21, 9] rfl rfl rfl rfl rfl hl.1 rfl (Nat.le_of_ble_eq_true rfl) dX0_copyFrom_112 ⟨Nat.zero_le _, Nat.zero_le _⟩ rfl (fun H locs hP hD hS => ?_)
  have hP : va_P D vwCl (W_k_k2 cI cM a_k a_k_staticType a_k_dynamicType a_k_target a_k_argumentCounts a_k_temporaryCounts a_k_keys a_k_kinds a_k_values a_k_temporaryKinds a_k_newKinds a_k_newValues a_k2 a_k2_staticType a_k2_dynamicType a_k2_target a_k2_argumentCounts a_k2_temporaryCounts a_k2_keys a_k2_kinds a_k2_values a_k2_temporaryKinds a_k2_newKinds a_k2_newValues k2_count k2_frozenSet k2_staticType k2_dynamicType k2_target k2_argumentCounts k2_temporaryCounts k2_keys k2_kinds k2_values k2_temporaryKinds k_newKinds k_newValues k2_count k2_frozenSet k2_staticType k2_dynamicType k2_target k2_argumentCounts k2_temporaryCounts k2_keys k2_kinds k2_values k2_temporaryKinds k2_newKinds k2_newValues) H := hP
  have hD : va_D _ (W_k_k2 cI cM a_k a_k_staticType a_k_dynamicType a_k_target a_k_argumentCounts a_k_temporaryCounts a_k_keys a_k_kinds a_k_values a_k_temporaryKinds a_k_newKinds a_k_newValues a_k2 a_k2_staticType a_k2_dynamicType a_k2_target a_k2_argumentCounts a_k2_temporaryCounts a_k2_keys a_k2_kinds a_k2_values a_k2_temporaryKinds a_k2_newKinds a_k2_newValues k2_count k2_frozenSet k2_staticType k2_dynamicType k2_target k2_argumentCounts k2_temporaryCounts k2_keys k2_kinds k2_values k2_temporaryKinds k_newKinds k_newValues k2_count k2_frozenSet k2_staticType k2_dynamicType k2_target k2_argumentCounts k2_temporaryCounts k2_keys k2_kinds k2_values k2_temporaryKinds k2_newKinds k2_newValues) := hD
  simp only [Option.some.injEq, Prod.mk.injEq] at h
  obtain ⟨e0, e1, e2, e3, e4, e5, e6, e7, e8, e9, e10⟩ := h
  exact kRetV hx hb hr hlk (by rw [← hw1, ← e0, ← e1, ← e2, ← e3, ← e4, ← e5, ← e6, ← e7, ← e8, ← e9, ← e10]; exact hP) hS dX0_copyFrom_115
set_option maxHeartbeats 8000000 in
set_option maxRecDepth 100000 in
theorem qX5_keySetOf (l : Launch) (D : va_G) (cI cM : ClassId) (a_m a_m_type a_m_name a_m_arity a_m_keys a_m_defaults : Nat) (m_count : Int32) (m_type : Nat → Int32) (m_name : Nat → Int32) (m_arity : Nat → Int32) (m_keys : Nat → Int32) (m_defaults : Nat → Int32) (x1 : Int32) (r : Int32) (h : fX5_keySetOf m_arity m_keys x1 = some r) : PM l yX5_keySetOf wsX5_keySetOf rmX5_keySetOf D cI cM [.ref a_m, .int x1] (W_m cI cM a_m a_m_type a_m_name a_m_arity a_m_keys a_m_defaults m_count m_type m_name m_arity m_keys m_defaults) r := by
  refine PM.of (cc := cX5_keySetOf) (maxL := 4) (ret := (some .int)) (by decide) rfl (Nat.le_of_ble_eq_true rfl) ?_
  intro p e s m below meth c ls hx hb hr hml hown hts hlk hP hKK hl
  have hown : s.vm.findClass RX5 = some m.cls := hown
  have hl : lv_has ls 4 [(0, .ref a_m), (1, .int x1)] := hl
  generalize hav : ([.ref a_m, .int x1] : List Value) = av at hts ⊢
  have SS : CallFix p m c cX5_keySetOf 4 s av.toArray wsX5_keySetOf RX5 := ⟨hx, hb, hml, hown, hts⟩
  have hinX5 : ∀ w ∈ u_ws RX5 TX5 6, w ∈ wsX5_keySetOf := by decide +kernel
  have lk18 := hts (.fieldLink RX5 18 "SignatureChanger$Methods" "arity" "[I") (List.mem_of_getElem? (i := 1) rfl)
  have cw31 : CallW rmX5_keySetOf s av.toArray RX5 RX5 31 yX5_keyOf cX5_keyOf 3 (some .int) wsX5_keyOf rmX5_keyOf 0 0 2 := cwV 2 hts gX5_keySetOf_X5_keyOf rfl rfl rfl (by decide +kernel) ⟨Nat.le_of_ble_eq_true rfl, Nat.le_of_ble_eq_true rfl⟩
  have cw35 : va_CN rmX5_keySetOf s av.toArray RX5 35 yX8_bit RX8 cX8_bit 1 (some .int) wsX8_bit rmX8_bit 0 0 1 ∧ (Cond.static yX8_bit).before av.toArray s = true ∧ True := ⟨va_cnB 1 hts gX5_keySetOf_X8_bit_n35 rfl rfl rfl (hKK.2.at 10 rfl) (hts (.initialized RX8) (List.mem_of_getElem? (i := 9) rfl)) (by decide +kernel) ⟨Nat.le_of_ble_eq_true rfl, Nat.le_of_ble_eq_true rfl⟩, hts (.static yX8_bit) (List.mem_of_getElem? (i := 8) rfl), trivial⟩
  have F4 : ∀ (n : Nat) (y1 : Int32) (y2 : Int32) (y3 : Int32), lX5_keySetOf_4 m_arity m_keys n y1 y2 y3 = some r → ∀ ls : Array Slot, lv_has ls 4 [(0, .ref a_m), (1, .int y1), (2, .int y2), (3, .int y3)] → WP p l e rmX5_keySetOf s m av below meth c r 4 ls [] := by
    intro n
    induction n with
    | zero => intro y1 y2 y3 h; exact no_some h
    | succ n ih =>
      intro y1 y2 y3 h ls hl
      rw [lX5_keySetOf_4_s] at h
      refine lv_iload_n hx hb dX5_keySetOf_4 rfl (lv_at hl 3 rfl) ?_
      refine lv_aload_n hx hb dX5_keySetOf_5 rfl (lv_at hl 0 rfl) ?_
      refine va_get (D := D) (ci := 5) (v := .ref a_m_arity) (C := RX5) (T := TX5) (N := 6) hx hb hts hinX5 hown hKK.1 hP 0 rfl rfl 3 (by decide) lk18 (fun _ h9 => h9) rfl dX5_keySetOf_6 ?_
      refine lv_iload_n hx hb dX5_keySetOf_9 rfl (lv_at hl 1 rfl) ?_
      obtain ⟨v1, iv1, ev1, h⟩ := rd_some h
      refine kAld hx hb hKK hP 3 rfl iv1 ev1 dX5_keySetOf_10 ?_
      refine lv_icmp_ge (tgt := 32) hx hb dX5_keySetOf_11 (by decide) (fun c2 => ?_) (fun c2 => ?_)
      · have h := ifp h c2
        refine lv_iload_n hx hb dX5_keySetOf_32 rfl (lv_at hl 2 rfl) ?_
        exact kRet hx hb hr hlk (Option.some.inj h) dX5_keySetOf_33
      · have h := ifn h c2
        refine lv_iload_n hx hb dX5_keySetOf_14 rfl (lv_at hl 2 rfl) ?_
        refine lv_aload_n hx hb dX5_keySetOf_15 rfl (lv_at hl 0 rfl) ?_
        refine lv_iload_n hx hb dX5_keySetOf_16 rfl (lv_at hl 1 rfl) ?_
        refine lv_iload_n hx hb dX5_keySetOf_17 rfl (lv_at hl 3 rfl) ?_
        obtain ⟨v3, ev3, h⟩ := bn_some h
        have hs4 : va_P D vwCl (W_m cI cM a_m a_m_type a_m_name a_m_arity a_m_keys a_m_defaults m_count m_type m_name m_arity m_keys m_defaults) _ := hP.sub (ws' := W_m cI cM a_m a_m_type a_m_name a_m_arity a_m_keys a_m_defaults m_count m_type m_name m_arity m_keys m_defaults) [0, 1, 2, 3, 4, 5] rfl
        refine kV (As := [.int y1, .int y3]) (rest := [.int y2]) SS hKK (qX5_keyOf l D cI cM a_m a_m_type a_m_name a_m_arity a_m_keys a_m_defaults m_count m_type m_name m_arity m_keys m_defaults y1 y3 v3 ev3) cw31 hs4 0 5 rfl rfl rfl hl.1 rfl (Nat.le_of_ble_eq_true rfl) dX5_keySetOf_18 ⟨Nat.zero_le _, Nat.zero_le _⟩ ?_
        obtain ⟨v5, ev5, h⟩ := bn_some h
        refine kSN (As := [.int v3]) (rest := [.int y2]) SS hKK (qX8_bit l D cI cM v3 v5 ev5) cw35 va_P_nil rfl hl.1 rfl (Nat.le_of_ble_eq_true rfl) dX5_keySetOf_21 ⟨Nat.zero_le _, Nat.zero_le _⟩ ?_
        refine lv_ior hx hb dX5_keySetOf_24 ?_
        refine lv_istore_n (lv' := [(2, .int (y2 ||| v5)), (0, .ref a_m), (1, .int y1), (3, .int y3)]) hx hb dX5_keySetOf_25 rfl hl (by decide) rfl (fun ls hl => ?_)
        refine lv_iinc (v := y3 + 1) (lv' := [(3, .int (y3 + 1)), (2, .int (y2 ||| v5)), (0, .ref a_m), (1, .int y1)]) hx hb dX5_keySetOf_26 hl (k := 3) rfl rfl (by decide) rfl (fun ls hl => ?_)
        refine lv_goto (tgt := 4) hx hb dX5_keySetOf_29 (by decide) ?_
        exact ih y1 (y2 ||| v5) (y3 + 1) h ls (lv_sub (l' := [(0, .ref a_m), (1, .int y1), (2, .int (y2 ||| v5)), (3, .int (y3 + 1))]) hl [2, 3, 1, 0] rfl)
  unfold fX5_keySetOf at h
  refine lv_iconst (v := 0) hx hb dX5_keySetOf_0 (by decide) ?_
  refine lv_istore_n (lv' := [(2, .int 0), (0, .ref a_m), (1, .int x1)]) hx hb dX5_keySetOf_1 rfl hl (by decide) rfl (fun ls hl => ?_)
  refine lv_iconst (v := 0) hx hb dX5_keySetOf_2 (by decide) ?_
  refine lv_istore_n (lv' := [(3, .int 0), (2, .int 0), (0, .ref a_m), (1, .int x1)]) hx hb dX5_keySetOf_3 rfl hl (by decide) rfl (fun ls hl => ?_)
  exact F4 5000 x1 0 0 h ls (lv_sub (l' := [(0, .ref a_m), (1, .int x1), (2, .int 0), (3, .int 0)]) hl [2, 3, 1, 0] rfl)
set_option maxHeartbeats 8000000 in
set_option maxRecDepth 100000 in
theorem qX1_start (l : Launch) (D : va_G) (cI cM : ClassId) (a_d a_d_sources a_d_keys a_d_defaults a_m a_m_type a_m_name a_m_arity a_m_keys a_m_defaults : Nat) (d_open : Int32) (d_method : Int32) (d_family : Int32) (d_oldCount : Int32) (d_keptSet : Int32) (d_count : Int32) (d_sources : Nat → Int32) (d_keys : Nat → Int32) (d_defaults : Nat → Int32) (d_usedKeys : Int32) (m_count : Int32) (m_type : Nat → Int32) (m_name : Nat → Int32) (m_arity : Nat → Int32) (m_keys : Nat → Int32) (m_defaults : Nat → Int32) (x2 : Int32) (x3 : Int32) (r_d_open : Int32) (r_d_method : Int32) (r_d_family : Int32) (r_d_oldCount : Int32) (r_d_keptSet : Int32) (r_d_count : Int32) (r_d_usedKeys : Int32) (h : fX1_start d_open d_method d_family d_oldCount d_keptSet d_count d_usedKeys m_arity m_keys x2 x3 = some (r_d_open, r_d_method, r_d_family, r_d_oldCount, r_d_keptSet, r_d_count, r_d_usedKeys)) : IM l yX1_start wsX1_start rmX1_start D cI cM [.ref a_d, .ref a_m, .int x2, .int x3] (W_d_m cI cM a_d a_d_sources a_d_keys a_d_defaults a_m a_m_type a_m_name a_m_arity a_m_keys a_m_defaults d_open d_method d_family d_oldCount d_keptSet d_count d_sources d_keys d_defaults d_usedKeys m_count m_type m_name m_arity m_keys m_defaults) (W_d_m cI cM a_d a_d_sources a_d_keys a_d_defaults a_m a_m_type a_m_name a_m_arity a_m_keys a_m_defaults r_d_open r_d_method r_d_family r_d_oldCount r_d_keptSet r_d_count d_sources d_keys d_defaults r_d_usedKeys m_count m_type m_name m_arity m_keys m_defaults) none := by
  refine IM.of (cc := cX1_start) (maxL := 4) (ret := none) (by decide) rfl (Nat.le_of_ble_eq_true rfl) ?_
  intro p e s m below meth c ls hx hb hr hml hown hts hlk hKK hP hD hS hl
  have hown : s.vm.findClass RX1 = some m.cls := hown
  have hl : lv_has ls 4 [(0, .ref a_d), (1, .ref a_m), (2, .int x2), (3, .int x3)] := hl
  generalize hav : ([.ref a_d, .ref a_m, .int x2, .int x3] : List Value) = av at hts ⊢
  generalize hw1 : W_d_m cI cM a_d a_d_sources a_d_keys a_d_defaults a_m a_m_type a_m_name a_m_arity a_m_keys a_m_defaults r_d_open r_d_method r_d_family r_d_oldCount r_d_keptSet r_d_count d_sources d_keys d_defaults r_d_usedKeys m_count m_type m_name m_arity m_keys m_defaults = w1
  generalize hw0 : W_d_m cI cM a_d a_d_sources a_d_keys a_d_defaults a_m a_m_type a_m_name a_m_arity a_m_keys a_m_defaults d_open d_method d_family d_oldCount d_keptSet d_count d_sources d_keys d_defaults d_usedKeys m_count m_type m_name m_arity m_keys m_defaults = w0 at hD hS ⊢
  have hP : va_P D vwCl (W_d_m cI cM a_d a_d_sources a_d_keys a_d_defaults a_m a_m_type a_m_name a_m_arity a_m_keys a_m_defaults d_open d_method d_family d_oldCount d_keptSet d_count d_sources d_keys d_defaults d_usedKeys m_count m_type m_name m_arity m_keys m_defaults) s.heap := hP
  have hD : va_D (fun q => q ∈ w0.map (·.1)) (W_d_m cI cM a_d a_d_sources a_d_keys a_d_defaults a_m a_m_type a_m_name a_m_arity a_m_keys a_m_defaults d_open d_method d_family d_oldCount d_keptSet d_count d_sources d_keys d_defaults d_usedKeys m_count m_type m_name m_arity m_keys m_defaults) := by rw [hw0]; exact hD
  have SS : CallFix p m c cX1_start 4 s av.toArray wsX1_start RX1 := ⟨hx, hb, hml, hown, hts⟩
  have hinX1 : ∀ w ∈ u_ws RX1 TX1 10, w ∈ wsX1_start := by decide +kernel
  have hinX5 : ∀ w ∈ u_ws RX5 TX5 6, w ∈ wsX1_start := by decide +kernel
  have lk21 := hts (.fieldLink RX1 21 "SignatureChanger$Draft" "open" "Z") (List.mem_of_getElem? (i := 1) rfl)
  have lk25 := hts (.fieldLink RX1 25 "SignatureChanger$Draft" "method" "I") (List.mem_of_getElem? (i := 2) rfl)
  have lk29 := hts (.fieldLink RX1 29 "SignatureChanger$Draft" "family" "I") (List.mem_of_getElem? (i := 3) rfl)
  have lk32 := hts (.fieldLink RX1 32 "SignatureChanger$Methods" "arity" "[I") (List.mem_of_getElem? (i := 4) rfl)
  have lk37 := hts (.fieldLink RX1 37 "SignatureChanger$Draft" "oldCount" "I") (List.mem_of_getElem? (i := 5) rfl)
  have lk40 := hts (.fieldLink RX1 40 "SignatureChanger$Draft" "keptSet" "I") (List.mem_of_getElem? (i := 6) rfl)
  have lk43 := hts (.fieldLink RX1 43 "SignatureChanger$Draft" "count" "I") (List.mem_of_getElem? (i := 7) rfl)
  have lk50 := hts (.fieldLink RX1 50 "SignatureChanger$Draft" "usedKeys" "I") (List.mem_of_getElem? (i := 8) rfl)
  have cw46 : CallW rmX1_start s av.toArray RX1 RX5 46 yX5_keySetOf cX5_keySetOf 4 (some .int) wsX5_keySetOf rmX5_keySetOf 0 0 1 := cwV 1 hts gX1_start_X5_keySetOf rfl rfl rfl (by decide +kernel) ⟨Nat.le_of_ble_eq_true rfl, Nat.le_of_ble_eq_true rfl⟩
  unfold fX1_start at h
  refine lv_aload_n hx hb dX1_start_0 rfl (lv_at hl 0 rfl) ?_
  refine lv_iconst (v := 1) hx hb dX1_start_1 (by decide) ?_
  refine va_put (D := D) (ci := 1) (v := .int 1) (ty := .boolean) (C := RX1) (T := TX1) (N := 10) hx hb hts hinX1 tyX1 tyX1_ok nmX1 hown hKK.1 hP hD hS 0 rfl rfl 0 (by decide) lk21 (fun _ h9 => h9) rfl (by decide +kernel) rfl rfl (Nat.le_of_ble_eq_true rfl) dX1_start_2 (fun H locs hP hD hS => ?_)
  have hP : va_P D vwCl (W_d_m cI cM a_d a_d_sources a_d_keys a_d_defaults a_m a_m_type a_m_name a_m_arity a_m_keys a_m_defaults 1 d_method d_family d_oldCount d_keptSet d_count d_sources d_keys d_defaults d_usedKeys m_count m_type m_name m_arity m_keys m_defaults) H := hP
  have hD : va_D _ (W_d_m cI cM a_d a_d_sources a_d_keys a_d_defaults a_m a_m_type a_m_name a_m_arity a_m_keys a_m_defaults 1 d_method d_family d_oldCount d_keptSet d_count d_sources d_keys d_defaults d_usedKeys m_count m_type m_name m_arity m_keys m_defaults) := hD
  refine lv_aload_n hx hb dX1_start_5 rfl (lv_at hl 0 rfl) ?_
  refine lv_iload_n hx hb dX1_start_6 rfl (lv_at hl 2 rfl) ?_
  refine va_put (D := D) (ci := 1) (v := .int x2) (ty := .int) (C := RX1) (T := TX1) (N := 10) hx hb hts hinX1 tyX1 tyX1_ok nmX1 hown hKK.1 hP hD hS 0 rfl rfl 1 (by decide) lk25 (fun _ h9 => h9) rfl (by decide +kernel) rfl rfl (Nat.le_of_ble_eq_true rfl) dX1_start_7 (fun H locs hP hD hS => ?_)
  have hP : va_P D vwCl (W_d_m cI cM a_d a_d_sources a_d_keys a_d_defaults a_m a_m_type a_m_name a_m_arity a_m_keys a_m_defaults 1 x2 d_family d_oldCount d_keptSet d_count d_sources d_keys d_defaults d_usedKeys m_count m_type m_name m_arity m_keys m_defaults) H := hP
  have hD : va_D _ (W_d_m cI cM a_d a_d_sources a_d_keys a_d_defaults a_m a_m_type a_m_name a_m_arity a_m_keys a_m_defaults 1 x2 d_family d_oldCount d_keptSet d_count d_sources d_keys d_defaults d_usedKeys m_count m_type m_name m_arity m_keys m_defaults) := hD
  refine lv_aload_n hx hb dX1_start_10 rfl (lv_at hl 0 rfl) ?_
  refine lv_iload_n hx hb dX1_start_11 rfl (lv_at hl 3 rfl) ?_
  refine va_put (D := D) (ci := 1) (v := .int x3) (ty := .int) (C := RX1) (T := TX1) (N := 10) hx hb hts hinX1 tyX1 tyX1_ok nmX1 hown hKK.1 hP hD hS 0 rfl rfl 2 (by decide) lk29 (fun _ h9 => h9) rfl (by decide +kernel) rfl rfl (Nat.le_of_ble_eq_true rfl) dX1_start_12 (fun H locs hP hD hS => ?_)
  have hP : va_P D vwCl (W_d_m cI cM a_d a_d_sources a_d_keys a_d_defaults a_m a_m_type a_m_name a_m_arity a_m_keys a_m_defaults 1 x2 x3 d_oldCount d_keptSet d_count d_sources d_keys d_defaults d_usedKeys m_count m_type m_name m_arity m_keys m_defaults) H := hP
  have hD : va_D _ (W_d_m cI cM a_d a_d_sources a_d_keys a_d_defaults a_m a_m_type a_m_name a_m_arity a_m_keys a_m_defaults 1 x2 x3 d_oldCount d_keptSet d_count d_sources d_keys d_defaults d_usedKeys m_count m_type m_name m_arity m_keys m_defaults) := hD
  refine lv_aload_n hx hb dX1_start_15 rfl (lv_at hl 0 rfl) ?_
  refine lv_aload_n hx hb dX1_start_16 rfl (lv_at hl 1 rfl) ?_
  refine va_get (D := D) (ci := 5) (v := .ref a_m_arity) (C := RX5) (T := TX5) (N := 6) hx hb hts hinX5 hown hKK.1 hP 4 rfl rfl 3 (by decide) lk32 (fun _ h9 => h9) rfl dX1_start_17 ?_
  refine lv_iload_n hx hb dX1_start_20 rfl (lv_at hl 2 rfl) ?_
  obtain ⟨v1, iv1, ev1, h⟩ := rd_some h
  refine kAld hx hb hKK hP 7 rfl iv1 ev1 dX1_start_21 ?_
  refine va_put (D := D) (ci := 1) (v := .int v1) (ty := .int) (C := RX1) (T := TX1) (N := 10) hx hb hts hinX1 tyX1 tyX1_ok nmX1 hown hKK.1 hP hD hS 0 rfl rfl 3 (by decide) lk37 (fun _ h9 => h9) rfl (by decide +kernel) rfl rfl (Nat.le_of_ble_eq_true rfl) dX1_start_22 (fun H locs hP hD hS => ?_)
  have hP : va_P D vwCl (W_d_m cI cM a_d a_d_sources a_d_keys a_d_defaults a_m a_m_type a_m_name a_m_arity a_m_keys a_m_defaults 1 x2 x3 v1 d_keptSet d_count d_sources d_keys d_defaults d_usedKeys m_count m_type m_name m_arity m_keys m_defaults) H := hP
  have hD : va_D _ (W_d_m cI cM a_d a_d_sources a_d_keys a_d_defaults a_m a_m_type a_m_name a_m_arity a_m_keys a_m_defaults 1 x2 x3 v1 d_keptSet d_count d_sources d_keys d_defaults d_usedKeys m_count m_type m_name m_arity m_keys m_defaults) := hD
  refine lv_aload_n hx hb dX1_start_25 rfl (lv_at hl 0 rfl) ?_
  refine lv_iconst (v := 0) hx hb dX1_start_26 (by decide) ?_
  refine va_put (D := D) (ci := 1) (v := .int 0) (ty := .int) (C := RX1) (T := TX1) (N := 10) hx hb hts hinX1 tyX1 tyX1_ok nmX1 hown hKK.1 hP hD hS 0 rfl rfl 4 (by decide) lk40 (fun _ h9 => h9) rfl (by decide +kernel) rfl rfl (Nat.le_of_ble_eq_true rfl) dX1_start_27 (fun H locs hP hD hS => ?_)
  have hP : va_P D vwCl (W_d_m cI cM a_d a_d_sources a_d_keys a_d_defaults a_m a_m_type a_m_name a_m_arity a_m_keys a_m_defaults 1 x2 x3 v1 0 d_count d_sources d_keys d_defaults d_usedKeys m_count m_type m_name m_arity m_keys m_defaults) H := hP
  have hD : va_D _ (W_d_m cI cM a_d a_d_sources a_d_keys a_d_defaults a_m a_m_type a_m_name a_m_arity a_m_keys a_m_defaults 1 x2 x3 v1 0 d_count d_sources d_keys d_defaults d_usedKeys m_count m_type m_name m_arity m_keys m_defaults) := hD
  refine lv_aload_n hx hb dX1_start_30 rfl (lv_at hl 0 rfl) ?_
  refine lv_iconst (v := 0) hx hb dX1_start_31 (by decide) ?_
  refine va_put (D := D) (ci := 1) (v := .int 0) (ty := .int) (C := RX1) (T := TX1) (N := 10) hx hb hts hinX1 tyX1 tyX1_ok nmX1 hown hKK.1 hP hD hS 0 rfl rfl 5 (by decide) lk43 (fun _ h9 => h9) rfl (by decide +kernel) rfl rfl (Nat.le_of_ble_eq_true rfl) dX1_start_32 (fun H locs hP hD hS => ?_)
  have hP : va_P D vwCl (W_d_m cI cM a_d a_d_sources a_d_keys a_d_defaults a_m a_m_type a_m_name a_m_arity a_m_keys a_m_defaults 1 x2 x3 v1 0 0 d_sources d_keys d_defaults d_usedKeys m_count m_type m_name m_arity m_keys m_defaults) H := hP
  have hD : va_D _ (W_d_m cI cM a_d a_d_sources a_d_keys a_d_defaults a_m a_m_type a_m_name a_m_arity a_m_keys a_m_defaults 1 x2 x3 v1 0 0 d_sources d_keys d_defaults d_usedKeys m_count m_type m_name m_arity m_keys m_defaults) := hD
  refine lv_aload_n hx hb dX1_start_35 rfl (lv_at hl 0 rfl) ?_
  refine lv_aload_n hx hb dX1_start_36 rfl (lv_at hl 1 rfl) ?_
  refine lv_iload_n hx hb dX1_start_37 rfl (lv_at hl 2 rfl) ?_
  obtain ⟨v2, ev2, h⟩ := bn_some h
  have hs3 : va_P D vwCl (W_m cI cM a_m a_m_type a_m_name a_m_arity a_m_keys a_m_defaults m_count m_type m_name m_arity m_keys m_defaults) _ := hP.sub (ws' := W_m cI cM a_m a_m_type a_m_name a_m_arity a_m_keys a_m_defaults m_count m_type m_name m_arity m_keys m_defaults) [4, 5, 6, 7, 8, 9] rfl
  refine kV (As := [.int x2]) (rest := [.ref a_d]) SS hKK (qX5_keySetOf l D cI cM a_m a_m_type a_m_name a_m_arity a_m_keys a_m_defaults m_count m_type m_name m_arity m_keys m_defaults x2 v2 ev2) cw46 hs3 0 5 rfl rfl rfl hl.1 rfl (Nat.le_of_ble_eq_true rfl) dX1_start_38 ⟨Nat.zero_le _, Nat.zero_le _⟩ ?_
  refine va_put (D := D) (ci := 1) (v := .int v2) (ty := .int) (C := RX1) (T := TX1) (N := 10) hx hb hts hinX1 tyX1 tyX1_ok nmX1 hown hKK.1 hP hD hS 0 rfl rfl 9 (by decide) lk50 (fun _ h9 => h9) rfl (by decide +kernel) rfl rfl (Nat.le_of_ble_eq_true rfl) dX1_start_41 (fun H locs hP hD hS => ?_)
  have hP : va_P D vwCl (W_d_m cI cM a_d a_d_sources a_d_keys a_d_defaults a_m a_m_type a_m_name a_m_arity a_m_keys a_m_defaults 1 x2 x3 v1 0 0 d_sources d_keys d_defaults v2 m_count m_type m_name m_arity m_keys m_defaults) H := hP
  have hD : va_D _ (W_d_m cI cM a_d a_d_sources a_d_keys a_d_defaults a_m a_m_type a_m_name a_m_arity a_m_keys a_m_defaults 1 x2 x3 v1 0 0 d_sources d_keys d_defaults v2 m_count m_type m_name m_arity m_keys m_defaults) := hD
  simp only [Option.some.injEq, Prod.mk.injEq] at h
  obtain ⟨e0, e1, e2, e3, e4, e5, e6⟩ := h
  exact kRetV hx hb hr hlk (by rw [← hw1, ← e0, ← e1, ← e2, ← e3, ← e4, ← e5, ← e6]; exact hP) hS dX1_start_44
set_option maxHeartbeats 8000000 in
set_option maxRecDepth 100000 in
theorem qX1_close (l : Launch) (D : va_G) (cI cM : ClassId) (a_d a_d_sources a_d_keys a_d_defaults : Nat) (d_open : Int32) (d_method : Int32) (d_family : Int32) (d_oldCount : Int32) (d_keptSet : Int32) (d_count : Int32) (d_sources : Nat → Int32) (d_keys : Nat → Int32) (d_defaults : Nat → Int32) (d_usedKeys : Int32) (r_d_open : Int32) (h : fX1_close d_open = some r_d_open) : IM l yX1_close wsX1_close rmX1_close D cI cM [.ref a_d] (W_d cI cM a_d a_d_sources a_d_keys a_d_defaults d_open d_method d_family d_oldCount d_keptSet d_count d_sources d_keys d_defaults d_usedKeys) (W_d cI cM a_d a_d_sources a_d_keys a_d_defaults r_d_open d_method d_family d_oldCount d_keptSet d_count d_sources d_keys d_defaults d_usedKeys) none := by
  refine IM.of (cc := cX1_close) (maxL := 1) (ret := none) (by decide) rfl (Nat.le_of_ble_eq_true rfl) ?_
  intro p e s m below meth c ls hx hb hr hml hown hts hlk hKK hP hD hS hl
  have hown : s.vm.findClass RX1 = some m.cls := hown
  have hl : lv_has ls 1 [(0, .ref a_d)] := hl
  generalize hav : ([.ref a_d] : List Value) = av at hts ⊢
  generalize hw1 : W_d cI cM a_d a_d_sources a_d_keys a_d_defaults r_d_open d_method d_family d_oldCount d_keptSet d_count d_sources d_keys d_defaults d_usedKeys = w1
  generalize hw0 : W_d cI cM a_d a_d_sources a_d_keys a_d_defaults d_open d_method d_family d_oldCount d_keptSet d_count d_sources d_keys d_defaults d_usedKeys = w0 at hD hS ⊢
  have hP : va_P D vwCl (W_d cI cM a_d a_d_sources a_d_keys a_d_defaults d_open d_method d_family d_oldCount d_keptSet d_count d_sources d_keys d_defaults d_usedKeys) s.heap := hP
  have hD : va_D (fun q => q ∈ w0.map (·.1)) (W_d cI cM a_d a_d_sources a_d_keys a_d_defaults d_open d_method d_family d_oldCount d_keptSet d_count d_sources d_keys d_defaults d_usedKeys) := by rw [hw0]; exact hD
  have SS : CallFix p m c cX1_close 1 s av.toArray wsX1_close RX1 := ⟨hx, hb, hml, hown, hts⟩
  have hinX1 : ∀ w ∈ u_ws RX1 TX1 10, w ∈ wsX1_close := by decide +kernel
  have lk21 := hts (.fieldLink RX1 21 "SignatureChanger$Draft" "open" "Z") (List.mem_of_getElem? (i := 1) rfl)
  unfold fX1_close at h
  refine lv_aload_n hx hb dX1_close_0 rfl (lv_at hl 0 rfl) ?_
  refine lv_iconst (v := 0) hx hb dX1_close_1 (by decide) ?_
  refine va_put (D := D) (ci := 1) (v := .int 0) (ty := .boolean) (C := RX1) (T := TX1) (N := 10) hx hb hts hinX1 tyX1 tyX1_ok nmX1 hown hKK.1 hP hD hS 0 rfl rfl 0 (by decide) lk21 (fun _ h9 => h9) rfl (by decide +kernel) rfl rfl (Nat.le_of_ble_eq_true rfl) dX1_close_2 (fun H locs hP hD hS => ?_)
  have hP : va_P D vwCl (W_d cI cM a_d a_d_sources a_d_keys a_d_defaults 0 d_method d_family d_oldCount d_keptSet d_count d_sources d_keys d_defaults d_usedKeys) H := hP
  have hD : va_D _ (W_d cI cM a_d a_d_sources a_d_keys a_d_defaults 0 d_method d_family d_oldCount d_keptSet d_count d_sources d_keys d_defaults d_usedKeys) := hD
  have e0 := Option.some.inj h
  exact kRetV hx hb hr hlk (by rw [← hw1, ← e0]; exact hP) hS dX1_close_5
set_option maxHeartbeats 8000000 in
set_option maxRecDepth 100000 in
theorem qX5_defaultOf (l : Launch) (D : va_G) (cI cM : ClassId) (a_m a_m_type a_m_name a_m_arity a_m_keys a_m_defaults : Nat) (m_count : Int32) (m_type : Nat → Int32) (m_name : Nat → Int32) (m_arity : Nat → Int32) (m_keys : Nat → Int32) (m_defaults : Nat → Int32) (x1 : Int32) (x2 : Int32) (r : Int32) (h : fX5_defaultOf m_defaults x1 x2 = some r) : PM l yX5_defaultOf wsX5_defaultOf rmX5_defaultOf D cI cM [.ref a_m, .int x1, .int x2] (W_m cI cM a_m a_m_type a_m_name a_m_arity a_m_keys a_m_defaults m_count m_type m_name m_arity m_keys m_defaults) r := by
  refine PM.of (cc := cX5_defaultOf) (maxL := 3) (ret := (some .int)) (by decide) rfl (Nat.le_of_ble_eq_true rfl) ?_
  intro p e s m below meth c ls hx hb hr hml hown hts hlk hP hKK hl
  have hown : s.vm.findClass RX5 = some m.cls := hown
  have hl : lv_has ls 3 [(0, .ref a_m), (1, .int x1), (2, .int x2)] := hl
  generalize hav : ([.ref a_m, .int x1, .int x2] : List Value) = av at hts ⊢
  have SS : CallFix p m c cX5_defaultOf 3 s av.toArray wsX5_defaultOf RX5 := ⟨hx, hb, hml, hown, hts⟩
  have hinX5 : ∀ w ∈ u_ws RX5 TX5 6, w ∈ wsX5_defaultOf := by decide +kernel
  have lk24 := hts (.fieldLink RX5 24 "SignatureChanger$Methods" "defaults" "[I") (List.mem_of_getElem? (i := 1) rfl)
  unfold fX5_defaultOf at h
  refine lv_aload_n hx hb dX5_defaultOf_0 rfl (lv_at hl 0 rfl) ?_
  refine va_get (D := D) (ci := 5) (v := .ref a_m_defaults) (C := RX5) (T := TX5) (N := 6) hx hb hts hinX5 hown hKK.1 hP 0 rfl rfl 5 (by decide) lk24 (fun _ h9 => h9) rfl dX5_defaultOf_1 ?_
  refine lv_iload_n hx hb dX5_defaultOf_4 rfl (lv_at hl 1 rfl) ?_
  refine lv_iconst (v := 5) hx hb dX5_defaultOf_5 (by decide) ?_
  refine lv_imul hx hb dX5_defaultOf_6 ?_
  refine lv_iload_n hx hb dX5_defaultOf_7 rfl (lv_at hl 2 rfl) ?_
  refine lv_iadd hx hb dX5_defaultOf_8 ?_
  obtain ⟨v1, iv1, ev1, h⟩ := rd_some h
  refine kAld hx hb hKK hP 5 rfl iv1 ev1 dX5_defaultOf_9 ?_
  exact kRet hx hb hr hlk (Option.some.inj h) dX5_defaultOf_10
set_option maxHeartbeats 8000000 in
set_option maxRecDepth 100000 in
theorem qX1_append (l : Launch) (D : va_G) (cI cM : ClassId) (a_d a_d_sources a_d_keys a_d_defaults : Nat) (d_open : Int32) (d_method : Int32) (d_family : Int32) (d_oldCount : Int32) (d_keptSet : Int32) (d_count : Int32) (d_sources : Nat → Int32) (d_keys : Nat → Int32) (d_defaults : Nat → Int32) (d_usedKeys : Int32) (x1 : Int32) (x2 : Int32) (x3 : Int32) (r_d_count : Int32) (r_d_sources : Nat → Int32) (r_d_keys : Nat → Int32) (r_d_defaults : Nat → Int32) (h : fX1_append d_count d_sources d_keys d_defaults x1 x2 x3 = some (r_d_count, r_d_sources, r_d_keys, r_d_defaults)) : IM l yX1_append wsX1_append rmX1_append D cI cM [.ref a_d, .int x1, .int x2, .int x3] (W_d cI cM a_d a_d_sources a_d_keys a_d_defaults d_open d_method d_family d_oldCount d_keptSet d_count d_sources d_keys d_defaults d_usedKeys) (W_d cI cM a_d a_d_sources a_d_keys a_d_defaults d_open d_method d_family d_oldCount d_keptSet r_d_count r_d_sources r_d_keys r_d_defaults d_usedKeys) none := by
  refine IM.of (cc := cX1_append) (maxL := 4) (ret := none) (by decide) rfl (Nat.le_of_ble_eq_true rfl) ?_
  intro p e s m below meth c ls hx hb hr hml hown hts hlk hKK hP hD hS hl
  have hown : s.vm.findClass RX1 = some m.cls := hown
  have hl : lv_has ls 4 [(0, .ref a_d), (1, .int x1), (2, .int x2), (3, .int x3)] := hl
  generalize hav : ([.ref a_d, .int x1, .int x2, .int x3] : List Value) = av at hts ⊢
  generalize hw1 : W_d cI cM a_d a_d_sources a_d_keys a_d_defaults d_open d_method d_family d_oldCount d_keptSet r_d_count r_d_sources r_d_keys r_d_defaults d_usedKeys = w1
  generalize hw0 : W_d cI cM a_d a_d_sources a_d_keys a_d_defaults d_open d_method d_family d_oldCount d_keptSet d_count d_sources d_keys d_defaults d_usedKeys = w0 at hD hS ⊢
  have hP : va_P D vwCl (W_d cI cM a_d a_d_sources a_d_keys a_d_defaults d_open d_method d_family d_oldCount d_keptSet d_count d_sources d_keys d_defaults d_usedKeys) s.heap := hP
  have hD : va_D (fun q => q ∈ w0.map (·.1)) (W_d cI cM a_d a_d_sources a_d_keys a_d_defaults d_open d_method d_family d_oldCount d_keptSet d_count d_sources d_keys d_defaults d_usedKeys) := by rw [hw0]; exact hD
  have SS : CallFix p m c cX1_append 4 s av.toArray wsX1_append RX1 := ⟨hx, hb, hml, hown, hts⟩
  have hinX1 : ∀ w ∈ u_ws RX1 TX1 10, w ∈ wsX1_append := by decide +kernel
  have lk9 := hts (.fieldLink RX1 9 "SignatureChanger$Draft" "sources" "[I") (List.mem_of_getElem? (i := 1) rfl)
  have lk15 := hts (.fieldLink RX1 15 "SignatureChanger$Draft" "keys" "[I") (List.mem_of_getElem? (i := 3) rfl)
  have lk18 := hts (.fieldLink RX1 18 "SignatureChanger$Draft" "defaults" "[I") (List.mem_of_getElem? (i := 4) rfl)
  have lk43 := hts (.fieldLink RX1 43 "SignatureChanger$Draft" "count" "I") (List.mem_of_getElem? (i := 2) rfl)
  unfold fX1_append at h
  refine lv_aload_n hx hb dX1_append_0 rfl (lv_at hl 0 rfl) ?_
  refine va_get (D := D) (ci := 1) (v := .ref a_d_sources) (C := RX1) (T := TX1) (N := 10) hx hb hts hinX1 hown hKK.1 hP 0 rfl rfl 6 (by decide) lk9 (fun _ h9 => h9) rfl dX1_append_1 ?_
  refine lv_aload_n hx hb dX1_append_4 rfl (lv_at hl 0 rfl) ?_
  refine va_get (D := D) (ci := 1) (v := .int d_count) (C := RX1) (T := TX1) (N := 10) hx hb hts hinX1 hown hKK.1 hP 0 rfl rfl 5 (by decide) lk43 (fun _ h9 => h9) rfl dX1_append_5 ?_
  refine lv_iload_n hx hb dX1_append_8 rfl (lv_at hl 1 rfl) ?_
  obtain ⟨g1, ig1, eg1, h⟩ := wr_some h
  refine kAst hx hb hKK hP hD hS 1 rfl ig1 eg1 dX1_append_9 (fun H locs hP hD hS => ?_)
  have hP : va_P D vwCl (W_d cI cM a_d a_d_sources a_d_keys a_d_defaults d_open d_method d_family d_oldCount d_keptSet d_count g1 d_keys d_defaults d_usedKeys) H := hP
  have hD : va_D _ (W_d cI cM a_d a_d_sources a_d_keys a_d_defaults d_open d_method d_family d_oldCount d_keptSet d_count g1 d_keys d_defaults d_usedKeys) := hD
  refine lv_aload_n hx hb dX1_append_10 rfl (lv_at hl 0 rfl) ?_
  refine va_get (D := D) (ci := 1) (v := .ref a_d_keys) (C := RX1) (T := TX1) (N := 10) hx hb hts hinX1 hown hKK.1 hP 0 rfl rfl 7 (by decide) lk15 (fun _ h9 => h9) rfl dX1_append_11 ?_
  refine lv_aload_n hx hb dX1_append_14 rfl (lv_at hl 0 rfl) ?_
  refine va_get (D := D) (ci := 1) (v := .int d_count) (C := RX1) (T := TX1) (N := 10) hx hb hts hinX1 hown hKK.1 hP 0 rfl rfl 5 (by decide) lk43 (fun _ h9 => h9) rfl dX1_append_15 ?_
  refine lv_iload_n hx hb dX1_append_18 rfl (lv_at hl 2 rfl) ?_
  obtain ⟨g2, ig2, eg2, h⟩ := wr_some h
  refine kAst hx hb hKK hP hD hS 2 rfl ig2 eg2 dX1_append_19 (fun H locs hP hD hS => ?_)
  have hP : va_P D vwCl (W_d cI cM a_d a_d_sources a_d_keys a_d_defaults d_open d_method d_family d_oldCount d_keptSet d_count g1 g2 d_defaults d_usedKeys) H := hP
  have hD : va_D _ (W_d cI cM a_d a_d_sources a_d_keys a_d_defaults d_open d_method d_family d_oldCount d_keptSet d_count g1 g2 d_defaults d_usedKeys) := hD
  refine lv_aload_n hx hb dX1_append_20 rfl (lv_at hl 0 rfl) ?_
  refine va_get (D := D) (ci := 1) (v := .ref a_d_defaults) (C := RX1) (T := TX1) (N := 10) hx hb hts hinX1 hown hKK.1 hP 0 rfl rfl 8 (by decide) lk18 (fun _ h9 => h9) rfl dX1_append_21 ?_
  refine lv_aload_n hx hb dX1_append_24 rfl (lv_at hl 0 rfl) ?_
  refine va_get (D := D) (ci := 1) (v := .int d_count) (C := RX1) (T := TX1) (N := 10) hx hb hts hinX1 hown hKK.1 hP 0 rfl rfl 5 (by decide) lk43 (fun _ h9 => h9) rfl dX1_append_25 ?_
  refine lv_iload_n hx hb dX1_append_28 rfl (lv_at hl 3 rfl) ?_
  obtain ⟨g3, ig3, eg3, h⟩ := wr_some h
  refine kAst hx hb hKK hP hD hS 3 rfl ig3 eg3 dX1_append_29 (fun H locs hP hD hS => ?_)
  have hP : va_P D vwCl (W_d cI cM a_d a_d_sources a_d_keys a_d_defaults d_open d_method d_family d_oldCount d_keptSet d_count g1 g2 g3 d_usedKeys) H := hP
  have hD : va_D _ (W_d cI cM a_d a_d_sources a_d_keys a_d_defaults d_open d_method d_family d_oldCount d_keptSet d_count g1 g2 g3 d_usedKeys) := hD
  refine lv_aload_n hx hb dX1_append_30 rfl (lv_at hl 0 rfl) ?_
  refine lv_dup hx hb dX1_append_31 rfl ?_
  refine va_get (D := D) (ci := 1) (v := .int d_count) (C := RX1) (T := TX1) (N := 10) hx hb hts hinX1 hown hKK.1 hP 0 rfl rfl 5 (by decide) lk43 (fun _ h9 => h9) rfl dX1_append_32 ?_
  refine lv_iconst (v := 1) hx hb dX1_append_35 (by decide) ?_
  refine lv_iadd hx hb dX1_append_36 ?_
  refine va_put (D := D) (ci := 1) (v := .int (d_count + 1)) (ty := .int) (C := RX1) (T := TX1) (N := 10) hx hb hts hinX1 tyX1 tyX1_ok nmX1 hown hKK.1 hP hD hS 0 rfl rfl 5 (by decide) lk43 (fun _ h9 => h9) rfl (by decide +kernel) rfl rfl (Nat.le_of_ble_eq_true rfl) dX1_append_37 (fun H locs hP hD hS => ?_)
  have hP : va_P D vwCl (W_d cI cM a_d a_d_sources a_d_keys a_d_defaults d_open d_method d_family d_oldCount d_keptSet (d_count + 1) g1 g2 g3 d_usedKeys) H := hP
  have hD : va_D _ (W_d cI cM a_d a_d_sources a_d_keys a_d_defaults d_open d_method d_family d_oldCount d_keptSet (d_count + 1) g1 g2 g3 d_usedKeys) := hD
  simp only [Option.some.injEq, Prod.mk.injEq] at h
  obtain ⟨e0, e1, e2, e3⟩ := h
  exact kRetV hx hb hr hlk (by rw [← hw1, ← e0, ← e1, ← e2, ← e3]; exact hP) hS dX1_append_40
set_option maxHeartbeats 8000000 in
set_option maxRecDepth 100000 in
theorem qX1_keep (l : Launch) (D : va_G) (cI cM : ClassId) (a_d a_d_sources a_d_keys a_d_defaults a_m a_m_type a_m_name a_m_arity a_m_keys a_m_defaults : Nat) (d_open : Int32) (d_method : Int32) (d_family : Int32) (d_oldCount : Int32) (d_keptSet : Int32) (d_count : Int32) (d_sources : Nat → Int32) (d_keys : Nat → Int32) (d_defaults : Nat → Int32) (d_usedKeys : Int32) (m_count : Int32) (m_type : Nat → Int32) (m_name : Nat → Int32) (m_arity : Nat → Int32) (m_keys : Nat → Int32) (m_defaults : Nat → Int32) (x2 : Int32) (r : Int32) (r_d_keptSet : Int32) (r_d_count : Int32) (r_d_sources : Nat → Int32) (r_d_keys : Nat → Int32) (r_d_defaults : Nat → Int32) (h : fX1_keep d_method d_keptSet d_count d_sources d_keys d_defaults m_keys m_defaults x2 = some (r, r_d_keptSet, r_d_count, r_d_sources, r_d_keys, r_d_defaults)) : IM l yX1_keep wsX1_keep rmX1_keep D cI cM [.ref a_d, .ref a_m, .int x2] (W_d_m cI cM a_d a_d_sources a_d_keys a_d_defaults a_m a_m_type a_m_name a_m_arity a_m_keys a_m_defaults d_open d_method d_family d_oldCount d_keptSet d_count d_sources d_keys d_defaults d_usedKeys m_count m_type m_name m_arity m_keys m_defaults) (W_d_m cI cM a_d a_d_sources a_d_keys a_d_defaults a_m a_m_type a_m_name a_m_arity a_m_keys a_m_defaults d_open d_method d_family d_oldCount r_d_keptSet r_d_count r_d_sources r_d_keys r_d_defaults d_usedKeys m_count m_type m_name m_arity m_keys m_defaults) (some (.int r)) := by
  refine IM.of (cc := cX1_keep) (maxL := 3) (ret := (some .int)) (by decide) rfl (Nat.le_of_ble_eq_true rfl) ?_
  intro p e s m below meth c ls hx hb hr hml hown hts hlk hKK hP hD hS hl
  have hown : s.vm.findClass RX1 = some m.cls := hown
  have hl : lv_has ls 3 [(0, .ref a_d), (1, .ref a_m), (2, .int x2)] := hl
  generalize hav : ([.ref a_d, .ref a_m, .int x2] : List Value) = av at hts ⊢
  generalize hw1 : W_d_m cI cM a_d a_d_sources a_d_keys a_d_defaults a_m a_m_type a_m_name a_m_arity a_m_keys a_m_defaults d_open d_method d_family d_oldCount r_d_keptSet r_d_count r_d_sources r_d_keys r_d_defaults d_usedKeys m_count m_type m_name m_arity m_keys m_defaults = w1
  generalize hw0 : W_d_m cI cM a_d a_d_sources a_d_keys a_d_defaults a_m a_m_type a_m_name a_m_arity a_m_keys a_m_defaults d_open d_method d_family d_oldCount d_keptSet d_count d_sources d_keys d_defaults d_usedKeys m_count m_type m_name m_arity m_keys m_defaults = w0 at hD hS ⊢
  have hP : va_P D vwCl (W_d_m cI cM a_d a_d_sources a_d_keys a_d_defaults a_m a_m_type a_m_name a_m_arity a_m_keys a_m_defaults d_open d_method d_family d_oldCount d_keptSet d_count d_sources d_keys d_defaults d_usedKeys m_count m_type m_name m_arity m_keys m_defaults) s.heap := hP
  have hD : va_D (fun q => q ∈ w0.map (·.1)) (W_d_m cI cM a_d a_d_sources a_d_keys a_d_defaults a_m a_m_type a_m_name a_m_arity a_m_keys a_m_defaults d_open d_method d_family d_oldCount d_keptSet d_count d_sources d_keys d_defaults d_usedKeys m_count m_type m_name m_arity m_keys m_defaults) := by rw [hw0]; exact hD
  have SS : CallFix p m c cX1_keep 3 s av.toArray wsX1_keep RX1 := ⟨hx, hb, hml, hown, hts⟩
  have hinX1 : ∀ w ∈ u_ws RX1 TX1 10, w ∈ wsX1_keep := by decide +kernel
  have lk25 := hts (.fieldLink RX1 25 "SignatureChanger$Draft" "method" "I") (List.mem_of_getElem? (i := 2) rfl)
  have lk40 := hts (.fieldLink RX1 40 "SignatureChanger$Draft" "keptSet" "I") (List.mem_of_getElem? (i := 1) rfl)
  have lk43 := hts (.fieldLink RX1 43 "SignatureChanger$Draft" "count" "I") (List.mem_of_getElem? (i := 3) rfl)
  have cw53 : va_CN rmX1_keep s av.toArray RX1 53 yX8_bit RX8 cX8_bit 1 (some .int) wsX8_bit rmX8_bit 0 0 1 ∧ (Cond.static yX8_bit).before av.toArray s = true ∧ True := ⟨va_cnB 1 hts gX1_keep_X8_bit_n53 rfl rfl rfl (hKK.2.at 18 rfl) (hts (.initialized RX8) (List.mem_of_getElem? (i := 5) rfl)) (by decide +kernel) ⟨Nat.le_of_ble_eq_true rfl, Nat.le_of_ble_eq_true rfl⟩, hts (.static yX8_bit) (List.mem_of_getElem? (i := 4) rfl), trivial⟩
  have cw56 : CallW rmX1_keep s av.toArray RX1 RX5 56 yX5_keyOf cX5_keyOf 3 (some .int) wsX5_keyOf rmX5_keyOf 0 0 2 := cwV 2 hts gX1_keep_X5_keyOf rfl rfl rfl (by decide +kernel) ⟨Nat.le_of_ble_eq_true rfl, Nat.le_of_ble_eq_true rfl⟩
  have cw60 : CallW rmX1_keep s av.toArray RX1 RX5 60 yX5_defaultOf cX5_defaultOf 3 (some .int) wsX5_defaultOf rmX5_defaultOf 0 0 2 := cwV 2 hts gX1_keep_X5_defaultOf rfl rfl rfl (by decide +kernel) ⟨Nat.le_of_ble_eq_true rfl, Nat.le_of_ble_eq_true rfl⟩
  have cw63 : CallW rmX1_keep s av.toArray RX1 RX1 63 yX1_append cX1_append 4 none wsX1_append rmX1_append 0 0 3 := cwV 3 hts gX1_keep_X1_append rfl rfl rfl (by decide +kernel) ⟨Nat.le_of_ble_eq_true rfl, Nat.le_of_ble_eq_true rfl⟩
  unfold fX1_keep at h
  refine lv_aload_n hx hb dX1_keep_0 rfl (lv_at hl 0 rfl) ?_
  refine lv_dup hx hb dX1_keep_1 rfl ?_
  refine va_get (D := D) (ci := 1) (v := .int d_keptSet) (C := RX1) (T := TX1) (N := 10) hx hb hts hinX1 hown hKK.1 hP 0 rfl rfl 4 (by decide) lk40 (fun _ h9 => h9) rfl dX1_keep_2 ?_
  refine lv_iload_n hx hb dX1_keep_5 rfl (lv_at hl 2 rfl) ?_
  obtain ⟨v1, ev1, h⟩ := bn_some h
  refine kSN (As := [.int x2]) (rest := [.int d_keptSet, .ref a_d]) SS hKK (qX8_bit l D cI cM x2 v1 ev1) cw53 va_P_nil rfl hl.1 rfl (Nat.le_of_ble_eq_true rfl) dX1_keep_6 ⟨Nat.zero_le _, Nat.zero_le _⟩ ?_
  refine lv_ior hx hb dX1_keep_9 ?_
  refine va_put (D := D) (ci := 1) (v := .int (d_keptSet ||| v1)) (ty := .int) (C := RX1) (T := TX1) (N := 10) hx hb hts hinX1 tyX1 tyX1_ok nmX1 hown hKK.1 hP hD hS 0 rfl rfl 4 (by decide) lk40 (fun _ h9 => h9) rfl (by decide +kernel) rfl rfl (Nat.le_of_ble_eq_true rfl) dX1_keep_10 (fun H locs hP hD hS => ?_)
  have hP : va_P D vwCl (W_d_m cI cM a_d a_d_sources a_d_keys a_d_defaults a_m a_m_type a_m_name a_m_arity a_m_keys a_m_defaults d_open d_method d_family d_oldCount (d_keptSet ||| v1) d_count d_sources d_keys d_defaults d_usedKeys m_count m_type m_name m_arity m_keys m_defaults) H := hP
  have hD : va_D _ (W_d_m cI cM a_d a_d_sources a_d_keys a_d_defaults a_m a_m_type a_m_name a_m_arity a_m_keys a_m_defaults d_open d_method d_family d_oldCount (d_keptSet ||| v1) d_count d_sources d_keys d_defaults d_usedKeys m_count m_type m_name m_arity m_keys m_defaults) := hD
  refine lv_aload_n hx hb dX1_keep_13 rfl (lv_at hl 0 rfl) ?_
  refine lv_iload_n hx hb dX1_keep_14 rfl (lv_at hl 2 rfl) ?_
  refine lv_aload_n hx hb dX1_keep_15 rfl (lv_at hl 1 rfl) ?_
  refine lv_aload_n hx hb dX1_keep_16 rfl (lv_at hl 0 rfl) ?_
  refine va_get (D := D) (ci := 1) (v := .int d_method) (C := RX1) (T := TX1) (N := 10) hx hb hts hinX1 hown hKK.1 hP 0 rfl rfl 1 (by decide) lk25 (fun _ h9 => h9) rfl dX1_keep_17 ?_
  refine lv_iload_n hx hb dX1_keep_20 rfl (lv_at hl 2 rfl) ?_
  obtain ⟨v2, ev2, h⟩ := bn_some h
  have hs3 : va_P D vwCl (W_m cI cM a_m a_m_type a_m_name a_m_arity a_m_keys a_m_defaults m_count m_type m_name m_arity m_keys m_defaults) _ := hP.sub (ws' := W_m cI cM a_m a_m_type a_m_name a_m_arity a_m_keys a_m_defaults m_count m_type m_name m_arity m_keys m_defaults) [4, 5, 6, 7, 8, 9] rfl
  refine kV (As := [.int d_method, .int x2]) (rest := [.int x2, .ref a_d]) SS hKK (qX5_keyOf l D cI cM a_m a_m_type a_m_name a_m_arity a_m_keys a_m_defaults m_count m_type m_name m_arity m_keys m_defaults d_method x2 v2 ev2) cw56 hs3 0 5 rfl rfl rfl hl.1 rfl (Nat.le_of_ble_eq_true rfl) dX1_keep_21 ⟨Nat.zero_le _, Nat.zero_le _⟩ ?_
  refine lv_aload_n hx hb dX1_keep_24 rfl (lv_at hl 1 rfl) ?_
  refine lv_aload_n hx hb dX1_keep_25 rfl (lv_at hl 0 rfl) ?_
  refine va_get (D := D) (ci := 1) (v := .int d_method) (C := RX1) (T := TX1) (N := 10) hx hb hts hinX1 hown hKK.1 hP 0 rfl rfl 1 (by decide) lk25 (fun _ h9 => h9) rfl dX1_keep_26 ?_
  refine lv_iload_n hx hb dX1_keep_29 rfl (lv_at hl 2 rfl) ?_
  obtain ⟨v4, ev4, h⟩ := bn_some h
  refine kV (As := [.int d_method, .int x2]) (rest := [.int v2, .int x2, .ref a_d]) SS hKK (qX5_defaultOf l D cI cM a_m a_m_type a_m_name a_m_arity a_m_keys a_m_defaults m_count m_type m_name m_arity m_keys m_defaults d_method x2 v4 ev4) cw60 hs3 0 5 rfl rfl rfl hl.1 rfl (Nat.le_of_ble_eq_true rfl) dX1_keep_30 ⟨Nat.zero_le _, Nat.zero_le _⟩ ?_
  obtain ⟨g5, g6, g7, g8, eg5, h⟩ := bn4_some h
  refine kVI (As := [.int x2, .int v2, .int v4]) (rest := []) (st1 := []) SS hKK (qX1_append l D cI cM a_d a_d_sources a_d_keys a_d_defaults d_open d_method d_family d_oldCount (d_keptSet ||| v1) d_count d_sources d_keys d_defaults d_usedKeys x2 v2 v4 g5 g6 g7 g8 eg5) cw63 hP hD hS [0, 1, 2, 3] rfl rfl rfl rfl 0 1 rfl rfl rfl hl.1 rfl (Nat.le_of_ble_eq_true rfl) dX1_keep_33 ⟨Nat.zero_le _, Nat.zero_le _⟩ rfl (fun H locs hP hD hS => ?_)
  have hP : va_P D vwCl (W_d_m cI cM a_d a_d_sources a_d_keys a_d_defaults a_m a_m_type a_m_name a_m_arity a_m_keys a_m_defaults d_open d_method d_family d_oldCount (d_keptSet ||| v1) g5 g6 g7 g8 d_usedKeys m_count m_type m_name m_arity m_keys m_defaults) H := hP
  have hD : va_D _ (W_d_m cI cM a_d a_d_sources a_d_keys a_d_defaults a_m a_m_type a_m_name a_m_arity a_m_keys a_m_defaults d_open d_method d_family d_oldCount (d_keptSet ||| v1) g5 g6 g7 g8 d_usedKeys m_count m_type m_name m_arity m_keys m_defaults) := hD
  refine lv_aload_n hx hb dX1_keep_36 rfl (lv_at hl 0 rfl) ?_
  refine va_get (D := D) (ci := 1) (v := .int g5) (C := RX1) (T := TX1) (N := 10) hx hb hts hinX1 hown hKK.1 hP 0 rfl rfl 5 (by decide) lk43 (fun _ h9 => h9) rfl dX1_keep_37 ?_
  simp only [Option.some.injEq, Prod.mk.injEq] at h
  obtain ⟨e0, e1, e2, e3, e4, e5⟩ := h
  exact kRetI hx hb hr hlk e0 (by rw [← hw1, ← e1, ← e2, ← e3, ← e4, ← e5]; exact hP) hS dX1_keep_40
set_option maxHeartbeats 8000000 in
set_option maxRecDepth 100000 in
theorem qX1_freeKey (l : Launch) (D : va_G) (cI cM : ClassId) (a_d a_d_sources a_d_keys a_d_defaults : Nat) (d_open : Int32) (d_method : Int32) (d_family : Int32) (d_oldCount : Int32) (d_keptSet : Int32) (d_count : Int32) (d_sources : Nat → Int32) (d_keys : Nat → Int32) (d_defaults : Nat → Int32) (d_usedKeys : Int32) (r : Int32) (h : fX1_freeKey d_usedKeys = some r) : PM l yX1_freeKey wsX1_freeKey rmX1_freeKey D cI cM [.ref a_d] (W_d cI cM a_d a_d_sources a_d_keys a_d_defaults d_open d_method d_family d_oldCount d_keptSet d_count d_sources d_keys d_defaults d_usedKeys) r := by
  refine PM.of (cc := cX1_freeKey) (maxL := 2) (ret := (some .int)) (by decide) rfl (Nat.le_of_ble_eq_true rfl) ?_
  intro p e s m below meth c ls hx hb hr hml hown hts hlk hP hKK hl
  have hown : s.vm.findClass RX1 = some m.cls := hown
  have hl : lv_has ls 2 [(0, .ref a_d)] := hl
  generalize hav : ([.ref a_d] : List Value) = av at hts ⊢
  have SS : CallFix p m c cX1_freeKey 2 s av.toArray wsX1_freeKey RX1 := ⟨hx, hb, hml, hown, hts⟩
  have hinX1 : ∀ w ∈ u_ws RX1 TX1 10, w ∈ wsX1_freeKey := by decide +kernel
  have lk50 := hts (.fieldLink RX1 50 "SignatureChanger$Draft" "usedKeys" "I") (List.mem_of_getElem? (i := 1) rfl)
  have cw71 : va_CN rmX1_freeKey s av.toArray RX1 71 yX8_contains RX8 cX8_contains 2 (some .boolean) wsX8_contains rmX8_contains 0 0 2 ∧ (Cond.static yX8_contains).before av.toArray s = true ∧ True := ⟨va_cnB 2 hts gX1_freeKey_X8_contains_n71 rfl rfl rfl (hKK.2.at 19 rfl) (hts (.initialized RX8) (List.mem_of_getElem? (i := 3) rfl)) (by decide +kernel) ⟨Nat.le_of_ble_eq_true rfl, Nat.le_of_ble_eq_true rfl⟩, hts (.static yX8_contains) (List.mem_of_getElem? (i := 2) rfl), trivial⟩
  have F2 : ∀ (n : Nat) (y1 : Int32), lX1_freeKey_2 d_usedKeys n y1 = some r → ∀ ls : Array Slot, lv_has ls 2 [(0, .ref a_d), (1, .int y1)] → WP p l e rmX1_freeKey s m av below meth c r 2 ls [] := by
    intro n
    induction n with
    | zero => intro y1 h; exact no_some h
    | succ n ih =>
      intro y1 h ls hl
      rw [lX1_freeKey_2_s] at h
      refine lv_iload_n hx hb dX1_freeKey_2 rfl (lv_at hl 1 rfl) ?_
      refine lv_bipush (v := 10) hx hb dX1_freeKey_3 (by decide) ?_
      refine lv_icmp_ge (tgt := 25) hx hb dX1_freeKey_5 (by decide) (fun c1 => ?_) (fun c1 => ?_)
      · have h := ifp h c1
        refine lv_iload_n hx hb dX1_freeKey_25 rfl (lv_at hl 1 rfl) ?_
        exact kRet hx hb hr hlk (Option.some.inj h) dX1_freeKey_26
      · have h := ifn h c1
        refine lv_aload_n hx hb dX1_freeKey_8 rfl (lv_at hl 0 rfl) ?_
        refine va_get (D := D) (ci := 1) (v := .int d_usedKeys) (C := RX1) (T := TX1) (N := 10) hx hb hts hinX1 hown hKK.1 hP 0 rfl rfl 9 (by decide) lk50 (fun _ h9 => h9) rfl dX1_freeKey_9 ?_
        refine lv_iload_n hx hb dX1_freeKey_12 rfl (lv_at hl 1 rfl) ?_
        obtain ⟨v2, ev2, h⟩ := bn_some h
        refine kSN (As := [.int d_usedKeys, .int y1]) (rest := []) SS hKK (qX8_contains l D cI cM d_usedKeys y1 v2 ev2) cw71 va_P_nil rfl hl.1 rfl (Nat.le_of_ble_eq_true rfl) dX1_freeKey_13 ⟨Nat.zero_le _, Nat.zero_le _⟩ ?_
        refine lv_if_eq (tgt := 25) hx hb dX1_freeKey_16 (by decide) (fun c3 => ?_) (fun c3 => ?_)
        · have h := ifp h c3
          refine lv_iload_n hx hb dX1_freeKey_25 rfl (lv_at hl 1 rfl) ?_
          exact kRet hx hb hr hlk (Option.some.inj h) dX1_freeKey_26
        · have h := ifn h c3
          refine lv_iinc (v := y1 + 1) (lv' := [(1, .int (y1 + 1)), (0, .ref a_d)]) hx hb dX1_freeKey_19 hl (k := 1) rfl rfl (by decide) rfl (fun ls hl => ?_)
          refine lv_goto (tgt := 2) hx hb dX1_freeKey_22 (by decide) ?_
          exact ih (y1 + 1) h ls (lv_sub (l' := [(0, .ref a_d), (1, .int (y1 + 1))]) hl [1, 0] rfl)
  unfold fX1_freeKey at h
  refine lv_iconst (v := 0) hx hb dX1_freeKey_0 (by decide) ?_
  refine lv_istore_n (lv' := [(1, .int 0), (0, .ref a_d)]) hx hb dX1_freeKey_1 rfl hl (by decide) rfl (fun ls hl => ?_)
  exact F2 5000 0 h ls (lv_sub (l' := [(0, .ref a_d), (1, .int 0)]) hl [1, 0] rfl)
set_option maxHeartbeats 8000000 in
set_option maxRecDepth 100000 in
theorem qX1_insert (l : Launch) (D : va_G) (cI cM : ClassId) (a_d a_d_sources a_d_keys a_d_defaults : Nat) (d_open : Int32) (d_method : Int32) (d_family : Int32) (d_oldCount : Int32) (d_keptSet : Int32) (d_count : Int32) (d_sources : Nat → Int32) (d_keys : Nat → Int32) (d_defaults : Nat → Int32) (d_usedKeys : Int32) (x1 : Int32) (r : Int32) (r_d_count : Int32) (r_d_sources : Nat → Int32) (r_d_keys : Nat → Int32) (r_d_defaults : Nat → Int32) (r_d_usedKeys : Int32) (h : fX1_insert d_count d_sources d_keys d_defaults d_usedKeys x1 = some (r, r_d_count, r_d_sources, r_d_keys, r_d_defaults, r_d_usedKeys)) : IM l yX1_insert wsX1_insert rmX1_insert D cI cM [.ref a_d, .int x1] (W_d cI cM a_d a_d_sources a_d_keys a_d_defaults d_open d_method d_family d_oldCount d_keptSet d_count d_sources d_keys d_defaults d_usedKeys) (W_d cI cM a_d a_d_sources a_d_keys a_d_defaults d_open d_method d_family d_oldCount d_keptSet r_d_count r_d_sources r_d_keys r_d_defaults r_d_usedKeys) (some (.int r)) := by
  refine IM.of (cc := cX1_insert) (maxL := 3) (ret := (some .int)) (by decide) rfl (Nat.le_of_ble_eq_true rfl) ?_
  intro p e s m below meth c ls hx hb hr hml hown hts hlk hKK hP hD hS hl
  have hown : s.vm.findClass RX1 = some m.cls := hown
  have hl : lv_has ls 3 [(0, .ref a_d), (1, .int x1)] := hl
  generalize hav : ([.ref a_d, .int x1] : List Value) = av at hts ⊢
  generalize hw1 : W_d cI cM a_d a_d_sources a_d_keys a_d_defaults d_open d_method d_family d_oldCount d_keptSet r_d_count r_d_sources r_d_keys r_d_defaults r_d_usedKeys = w1
  generalize hw0 : W_d cI cM a_d a_d_sources a_d_keys a_d_defaults d_open d_method d_family d_oldCount d_keptSet d_count d_sources d_keys d_defaults d_usedKeys = w0 at hD hS ⊢
  have hP : va_P D vwCl (W_d cI cM a_d a_d_sources a_d_keys a_d_defaults d_open d_method d_family d_oldCount d_keptSet d_count d_sources d_keys d_defaults d_usedKeys) s.heap := hP
  have hD : va_D (fun q => q ∈ w0.map (·.1)) (W_d cI cM a_d a_d_sources a_d_keys a_d_defaults d_open d_method d_family d_oldCount d_keptSet d_count d_sources d_keys d_defaults d_usedKeys) := by rw [hw0]; exact hD
  have SS : CallFix p m c cX1_insert 3 s av.toArray wsX1_insert RX1 := ⟨hx, hb, hml, hown, hts⟩
  have hinX1 : ∀ w ∈ u_ws RX1 TX1 10, w ∈ wsX1_insert := by decide +kernel
  have lk50 := hts (.fieldLink RX1 50 "SignatureChanger$Draft" "usedKeys" "I") (List.mem_of_getElem? (i := 1) rfl)
  have cw53 : va_CN rmX1_insert s av.toArray RX1 53 yX8_bit RX8 cX8_bit 1 (some .int) wsX8_bit rmX8_bit 0 0 1 ∧ (Cond.static yX8_bit).before av.toArray s = true ∧ True := ⟨va_cnB 1 hts gX1_insert_X8_bit_n53 rfl rfl rfl (hKK.2.at 18 rfl) (hts (.initialized RX8) (List.mem_of_getElem? (i := 8) rfl)) (by decide +kernel) ⟨Nat.le_of_ble_eq_true rfl, Nat.le_of_ble_eq_true rfl⟩, hts (.static yX8_bit) (List.mem_of_getElem? (i := 10) rfl), trivial⟩
  have cw63 : CallW rmX1_insert s av.toArray RX1 RX1 63 yX1_append cX1_append 4 none wsX1_append rmX1_append 0 0 3 := cwV 3 hts gX1_insert_X1_append rfl rfl rfl (by decide +kernel) ⟨Nat.le_of_ble_eq_true rfl, Nat.le_of_ble_eq_true rfl⟩
  have cw67 : CallW rmX1_insert s av.toArray RX1 RX1 67 yX1_freeKey cX1_freeKey 2 (some .int) wsX1_freeKey rmX1_freeKey 0 0 0 := cwV 0 hts gX1_insert_X1_freeKey rfl rfl rfl (by decide +kernel) ⟨Nat.le_of_ble_eq_true rfl, Nat.le_of_ble_eq_true rfl⟩
  unfold fX1_insert at h
  refine lv_aload_n hx hb dX1_insert_0 rfl (lv_at hl 0 rfl) ?_
  obtain ⟨v1, ev1, h⟩ := bn_some h
  have hs2 : va_P D vwCl (W_d cI cM a_d a_d_sources a_d_keys a_d_defaults d_open d_method d_family d_oldCount d_keptSet d_count d_sources d_keys d_defaults d_usedKeys) _ := hP.sub (ws' := W_d cI cM a_d a_d_sources a_d_keys a_d_defaults d_open d_method d_family d_oldCount d_keptSet d_count d_sources d_keys d_defaults d_usedKeys) [0, 1, 2, 3] rfl
  refine kV (As := []) (rest := []) SS hKK (qX1_freeKey l D cI cM a_d a_d_sources a_d_keys a_d_defaults d_open d_method d_family d_oldCount d_keptSet d_count d_sources d_keys d_defaults d_usedKeys v1 ev1) cw67 hs2 0 1 rfl rfl rfl hl.1 rfl (Nat.le_of_ble_eq_true rfl) dX1_insert_1 ⟨Nat.zero_le _, Nat.zero_le _⟩ ?_
  refine lv_istore_n (lv' := [(2, .int v1), (0, .ref a_d), (1, .int x1)]) hx hb dX1_insert_4 rfl hl (by decide) rfl (fun ls hl => ?_)
  refine lv_aload_n hx hb dX1_insert_5 rfl (lv_at hl 1 rfl) ?_
  refine lv_dup hx hb dX1_insert_6 rfl ?_
  refine va_get (D := D) (ci := 1) (v := .int d_usedKeys) (C := RX1) (T := TX1) (N := 10) hx hb hts hinX1 hown hKK.1 hP 0 rfl rfl 9 (by decide) lk50 (fun _ h9 => h9) rfl dX1_insert_7 ?_
  refine lv_iload_n hx hb dX1_insert_10 rfl (lv_at hl 0 rfl) ?_
  obtain ⟨v3, ev3, h⟩ := bn_some h
  refine kSN (As := [.int v1]) (rest := [.int d_usedKeys, .ref a_d]) SS hKK (qX8_bit l D cI cM v1 v3 ev3) cw53 va_P_nil rfl hl.1 rfl (Nat.le_of_ble_eq_true rfl) dX1_insert_11 ⟨Nat.zero_le _, Nat.zero_le _⟩ ?_
  refine lv_ior hx hb dX1_insert_14 ?_
  refine va_put (D := D) (ci := 1) (v := .int (d_usedKeys ||| v3)) (ty := .int) (C := RX1) (T := TX1) (N := 10) hx hb hts hinX1 tyX1 tyX1_ok nmX1 hown hKK.1 hP hD hS 0 rfl rfl 9 (by decide) lk50 (fun _ h9 => h9) rfl (by decide +kernel) rfl rfl (Nat.le_of_ble_eq_true rfl) dX1_insert_15 (fun H locs hP hD hS => ?_)
  have hP : va_P D vwCl (W_d cI cM a_d a_d_sources a_d_keys a_d_defaults d_open d_method d_family d_oldCount d_keptSet d_count d_sources d_keys d_defaults (d_usedKeys ||| v3)) H := hP
  have hD : va_D _ (W_d cI cM a_d a_d_sources a_d_keys a_d_defaults d_open d_method d_family d_oldCount d_keptSet d_count d_sources d_keys d_defaults (d_usedKeys ||| v3)) := hD
  refine lv_aload_n hx hb dX1_insert_18 rfl (lv_at hl 1 rfl) ?_
  refine lv_iconst (v := (-1)) hx hb dX1_insert_19 (by decide) ?_
  refine lv_iload_n hx hb dX1_insert_20 rfl (lv_at hl 0 rfl) ?_
  refine lv_iload_n hx hb dX1_insert_21 rfl (lv_at hl 2 rfl) ?_
  obtain ⟨g4, g5, g6, g7, eg4, h⟩ := bn4_some h
  refine kVI (As := [.int (-1), .int v1, .int x1]) (rest := []) (st1 := []) SS hKK (qX1_append l D cI cM a_d a_d_sources a_d_keys a_d_defaults d_open d_method d_family d_oldCount d_keptSet d_count d_sources d_keys d_defaults (d_usedKeys ||| v3) (-1) v1 x1 g4 g5 g6 g7 eg4) cw63 hP hD hS [0, 1, 2, 3] rfl rfl rfl rfl 0 1 rfl rfl rfl hl.1 rfl (Nat.le_of_ble_eq_true rfl) dX1_insert_22 ⟨Nat.zero_le _, Nat.zero_le _⟩ rfl (fun H locs hP hD hS => ?_)
  have hP : va_P D vwCl (W_d cI cM a_d a_d_sources a_d_keys a_d_defaults d_open d_method d_family d_oldCount d_keptSet g4 g5 g6 g7 (d_usedKeys ||| v3)) H := hP
  have hD : va_D _ (W_d cI cM a_d a_d_sources a_d_keys a_d_defaults d_open d_method d_family d_oldCount d_keptSet g4 g5 g6 g7 (d_usedKeys ||| v3)) := hD
  refine lv_iload_n hx hb dX1_insert_25 rfl (lv_at hl 0 rfl) ?_
  simp only [Option.some.injEq, Prod.mk.injEq] at h
  obtain ⟨e0, e1, e2, e3, e4, e5⟩ := h
  exact kRetI hx hb hr hlk e0 (by rw [← hw1, ← e1, ← e2, ← e3, ← e4, ← e5]; exact hP) hS dX1_insert_26
set_option maxHeartbeats 8000000 in
set_option maxRecDepth 100000 in
theorem qX1_keepsWholeList (l : Launch) (D : va_G) (cI cM : ClassId) (a_d a_d_sources a_d_keys a_d_defaults : Nat) (d_open : Int32) (d_method : Int32) (d_family : Int32) (d_oldCount : Int32) (d_keptSet : Int32) (d_count : Int32) (d_sources : Nat → Int32) (d_keys : Nat → Int32) (d_defaults : Nat → Int32) (d_usedKeys : Int32) (r : Int32) (h : fX1_keepsWholeList d_oldCount d_count d_sources = some r) : PM l yX1_keepsWholeList wsX1_keepsWholeList rmX1_keepsWholeList D cI cM [.ref a_d] (W_d cI cM a_d a_d_sources a_d_keys a_d_defaults d_open d_method d_family d_oldCount d_keptSet d_count d_sources d_keys d_defaults d_usedKeys) r := by
  refine PM.of (cc := cX1_keepsWholeList) (maxL := 2) (ret := (some .boolean)) (by decide) rfl (Nat.le_of_ble_eq_true rfl) ?_
  intro p e s m below meth c ls hx hb hr hml hown hts hlk hP hKK hl
  have hown : s.vm.findClass RX1 = some m.cls := hown
  have hl : lv_has ls 2 [(0, .ref a_d)] := hl
  generalize hav : ([.ref a_d] : List Value) = av at hts ⊢
  have SS : CallFix p m c cX1_keepsWholeList 2 s av.toArray wsX1_keepsWholeList RX1 := ⟨hx, hb, hml, hown, hts⟩
  have hinX1 : ∀ w ∈ u_ws RX1 TX1 10, w ∈ wsX1_keepsWholeList := by decide +kernel
  have lk9 := hts (.fieldLink RX1 9 "SignatureChanger$Draft" "sources" "[I") (List.mem_of_getElem? (i := 2) rfl)
  have lk37 := hts (.fieldLink RX1 37 "SignatureChanger$Draft" "oldCount" "I") (List.mem_of_getElem? (i := 3) rfl)
  have lk43 := hts (.fieldLink RX1 43 "SignatureChanger$Draft" "count" "I") (List.mem_of_getElem? (i := 1) rfl)
  have F2 : ∀ (n : Nat) (y1 : Int32), lX1_keepsWholeList_2 d_oldCount d_count d_sources n y1 = some r → ∀ ls : Array Slot, lv_has ls 2 [(0, .ref a_d), (1, .int y1)] → WP p l e rmX1_keepsWholeList s m av below meth c r 2 ls [] := by
    intro n
    induction n with
    | zero => intro y1 h; exact no_some h
    | succ n ih =>
      intro y1 h ls hl
      rw [lX1_keepsWholeList_2_s] at h
      refine lv_iload_n hx hb dX1_keepsWholeList_2 rfl (lv_at hl 1 rfl) ?_
      refine lv_aload_n hx hb dX1_keepsWholeList_3 rfl (lv_at hl 0 rfl) ?_
      refine va_get (D := D) (ci := 1) (v := .int d_count) (C := RX1) (T := TX1) (N := 10) hx hb hts hinX1 hown hKK.1 hP 0 rfl rfl 5 (by decide) lk43 (fun _ h9 => h9) rfl dX1_keepsWholeList_4 ?_
      refine lv_icmp_ge (tgt := 28) hx hb dX1_keepsWholeList_7 (by decide) (fun c1 => ?_) (fun c1 => ?_)
      · have h := ifp h c1
        refine lv_aload_n hx hb dX1_keepsWholeList_28 rfl (lv_at hl 0 rfl) ?_
        refine va_get (D := D) (ci := 1) (v := .int d_count) (C := RX1) (T := TX1) (N := 10) hx hb hts hinX1 hown hKK.1 hP 0 rfl rfl 5 (by decide) lk43 (fun _ h9 => h9) rfl dX1_keepsWholeList_29 ?_
        refine lv_aload_n hx hb dX1_keepsWholeList_32 rfl (lv_at hl 0 rfl) ?_
        refine va_get (D := D) (ci := 1) (v := .int d_oldCount) (C := RX1) (T := TX1) (N := 10) hx hb hts hinX1 hown hKK.1 hP 0 rfl rfl 3 (by decide) lk37 (fun _ h9 => h9) rfl dX1_keepsWholeList_33 ?_
        refine lv_icmp_ne (tgt := 43) hx hb dX1_keepsWholeList_36 (by decide) (fun c2 => ?_) (fun c2 => ?_)
        · have h := ifn h c2
          refine lv_iconst (v := 0) hx hb dX1_keepsWholeList_43 (by decide) ?_
          exact kRetZ hx hb hr hlk rfl (Option.some.inj h) dX1_keepsWholeList_44
        · have h := ifp h c2
          refine lv_iconst (v := 1) hx hb dX1_keepsWholeList_39 (by decide) ?_
          refine lv_goto (tgt := 44) hx hb dX1_keepsWholeList_40 (by decide) ?_
          exact kRetZ hx hb hr hlk rfl (Option.some.inj h) dX1_keepsWholeList_44
      · have h := ifn h c1
        refine lv_aload_n hx hb dX1_keepsWholeList_10 rfl (lv_at hl 0 rfl) ?_
        refine va_get (D := D) (ci := 1) (v := .ref a_d_sources) (C := RX1) (T := TX1) (N := 10) hx hb hts hinX1 hown hKK.1 hP 0 rfl rfl 6 (by decide) lk9 (fun _ h9 => h9) rfl dX1_keepsWholeList_11 ?_
        refine lv_iload_n hx hb dX1_keepsWholeList_14 rfl (lv_at hl 1 rfl) ?_
        obtain ⟨v3, iv3, ev3, h⟩ := rd_some h
        refine kAld hx hb hKK hP 1 rfl iv3 ev3 dX1_keepsWholeList_15 ?_
        refine lv_iload_n hx hb dX1_keepsWholeList_16 rfl (lv_at hl 1 rfl) ?_
        refine lv_icmp_eq (tgt := 22) hx hb dX1_keepsWholeList_17 (by decide) (fun c4 => ?_) (fun c4 => ?_)
        · have h := ifp h c4
          refine lv_iinc (v := y1 + 1) (lv' := [(1, .int (y1 + 1)), (0, .ref a_d)]) hx hb dX1_keepsWholeList_22 hl (k := 1) rfl rfl (by decide) rfl (fun ls hl => ?_)
          refine lv_goto (tgt := 2) hx hb dX1_keepsWholeList_25 (by decide) ?_
          exact ih (y1 + 1) h ls (lv_sub (l' := [(0, .ref a_d), (1, .int (y1 + 1))]) hl [1, 0] rfl)
        · have h := ifn h c4
          refine lv_iconst (v := 0) hx hb dX1_keepsWholeList_20 (by decide) ?_
          exact kRetZ hx hb hr hlk rfl (Option.some.inj h) dX1_keepsWholeList_21
  unfold fX1_keepsWholeList at h
  refine lv_iconst (v := 0) hx hb dX1_keepsWholeList_0 (by decide) ?_
  refine lv_istore_n (lv' := [(1, .int 0), (0, .ref a_d)]) hx hb dX1_keepsWholeList_1 rfl hl (by decide) rfl (fun ls hl => ?_)
  exact F2 5000 0 h ls (lv_sub (l' := [(0, .ref a_d), (1, .int 0)]) hl [1, 0] rfl)
set_option maxHeartbeats 8000000 in
set_option maxRecDepth 100000 in
theorem qX2_readOrTick (l : Launch) (D : va_G) (cI cM : ClassId) (a_e a_e_temporaries a_e_arguments : Nat) (e_counter : Int32) (e_temporaries : Nat → Int32) (e_arguments : Nat → Int32) (x1 : Int32) (r : Int32) (r_e_counter : Int32) (h : fX2_readOrTick e_counter x1 = some (r, r_e_counter)) : IM l yX2_readOrTick wsX2_readOrTick rmX2_readOrTick D cI cM [.ref a_e, .int x1] (W_e cI cM a_e a_e_temporaries a_e_arguments e_counter e_temporaries e_arguments) (W_e cI cM a_e a_e_temporaries a_e_arguments r_e_counter e_temporaries e_arguments) (some (.int r)) := by
  refine IM.of (cc := cX2_readOrTick) (maxL := 3) (ret := (some .int)) (by decide) rfl (Nat.le_of_ble_eq_true rfl) ?_
  intro p e s m below meth c ls hx hb hr hml hown hts hlk hKK hP hD hS hl
  have hown : s.vm.findClass RX2 = some m.cls := hown
  have hl : lv_has ls 3 [(0, .ref a_e), (1, .int x1)] := hl
  generalize hav : ([.ref a_e, .int x1] : List Value) = av at hts ⊢
  generalize hw1 : W_e cI cM a_e a_e_temporaries a_e_arguments r_e_counter e_temporaries e_arguments = w1
  generalize hw0 : W_e cI cM a_e a_e_temporaries a_e_arguments e_counter e_temporaries e_arguments = w0 at hD hS ⊢
  have hP : va_P D vwCl (W_e cI cM a_e a_e_temporaries a_e_arguments e_counter e_temporaries e_arguments) s.heap := hP
  have hD : va_D (fun q => q ∈ w0.map (·.1)) (W_e cI cM a_e a_e_temporaries a_e_arguments e_counter e_temporaries e_arguments) := by rw [hw0]; exact hD
  have SS : CallFix p m c cX2_readOrTick 3 s av.toArray wsX2_readOrTick RX2 := ⟨hx, hb, hml, hown, hts⟩
  have hinX2 : ∀ w ∈ u_ws RX2 TX2 3, w ∈ wsX2_readOrTick := by decide +kernel
  have lk18 := hts (.fieldLink RX2 18 "SignatureChanger$Evaluation" "counter" "I") (List.mem_of_getElem? (i := 1) rfl)
  unfold fX2_readOrTick at h
  refine lv_aload_n hx hb dX2_readOrTick_0 rfl (lv_at hl 0 rfl) ?_
  refine va_get (D := D) (ci := 2) (v := .int e_counter) (C := RX2) (T := TX2) (N := 3) hx hb hts hinX2 hown hKK.1 hP 0 rfl rfl 0 (by decide) lk18 (fun _ h9 => h9) rfl dX2_readOrTick_1 ?_
  refine lv_istore_n (lv' := [(2, .int e_counter), (0, .ref a_e), (1, .int x1)]) hx hb dX2_readOrTick_4 rfl hl (by decide) rfl (fun ls hl => ?_)
  refine lv_iload_n hx hb dX2_readOrTick_5 rfl (lv_at hl 2 rfl) ?_
  refine lv_iconst (v := 2) hx hb dX2_readOrTick_6 (by decide) ?_
  refine lv_icmp_ne (tgt := 20) hx hb dX2_readOrTick_7 (by decide) (fun c1 => ?_) (fun c1 => ?_)
  · have h := ifn h c1
    refine lv_iload_n hx hb dX2_readOrTick_20 rfl (lv_at hl 0 rfl) ?_
    simp only [Option.some.injEq, Prod.mk.injEq] at h
    obtain ⟨e0, e1⟩ := h
    exact kRetI hx hb hr hlk e0 (by rw [← hw1, ← e1]; exact hP) hS dX2_readOrTick_21
  · have h := ifp h c1
    refine lv_aload_n hx hb dX2_readOrTick_10 rfl (lv_at hl 1 rfl) ?_
    refine lv_dup hx hb dX2_readOrTick_11 rfl ?_
    refine va_get (D := D) (ci := 2) (v := .int e_counter) (C := RX2) (T := TX2) (N := 3) hx hb hts hinX2 hown hKK.1 hP 0 rfl rfl 0 (by decide) lk18 (fun _ h9 => h9) rfl dX2_readOrTick_12 ?_
    refine lv_iconst (v := 1) hx hb dX2_readOrTick_15 (by decide) ?_
    refine lv_iadd hx hb dX2_readOrTick_16 ?_
    refine va_put (D := D) (ci := 2) (v := .int (e_counter + 1)) (ty := .int) (C := RX2) (T := TX2) (N := 3) hx hb hts hinX2 tyX2 tyX2_ok nmX2 hown hKK.1 hP hD hS 0 rfl rfl 0 (by decide) lk18 (fun _ h9 => h9) rfl (by decide +kernel) rfl rfl (Nat.le_of_ble_eq_true rfl) dX2_readOrTick_17 (fun H locs hP hD hS => ?_)
    have hP : va_P D vwCl (W_e cI cM a_e a_e_temporaries a_e_arguments (e_counter + 1) e_temporaries e_arguments) H := hP
    have hD : va_D _ (W_e cI cM a_e a_e_temporaries a_e_arguments (e_counter + 1) e_temporaries e_arguments) := hD
    refine lv_iload_n hx hb dX2_readOrTick_20 rfl (lv_at hl 0 rfl) ?_
    simp only [Option.some.injEq, Prod.mk.injEq] at h
    obtain ⟨e0, e1⟩ := h
    exact kRetI hx hb hr hlk e0 (by rw [← hw1, ← e1]; exact hP) hS dX2_readOrTick_21
set_option maxHeartbeats 8000000 in
set_option maxRecDepth 100000 in
theorem qX2_valueOf (l : Launch) (D : va_G) (cI cM : ClassId) (a_e a_e_temporaries a_e_arguments : Nat) (e_counter : Int32) (e_temporaries : Nat → Int32) (e_arguments : Nat → Int32) (x1 : Int32) (x2 : Int32) (r : Int32) (r_e_counter : Int32) (h : fX2_valueOf e_counter e_temporaries x1 x2 = some (r, r_e_counter)) : IM l yX2_valueOf wsX2_valueOf rmX2_valueOf D cI cM [.ref a_e, .int x1, .int x2] (W_e cI cM a_e a_e_temporaries a_e_arguments e_counter e_temporaries e_arguments) (W_e cI cM a_e a_e_temporaries a_e_arguments r_e_counter e_temporaries e_arguments) (some (.int r)) := by
  refine IM.of (cc := cX2_valueOf) (maxL := 3) (ret := (some .int)) (by decide) rfl (Nat.le_of_ble_eq_true rfl) ?_
  intro p e s m below meth c ls hx hb hr hml hown hts hlk hKK hP hD hS hl
  have hown : s.vm.findClass RX2 = some m.cls := hown
  have hl : lv_has ls 3 [(0, .ref a_e), (1, .int x1), (2, .int x2)] := hl
  generalize hav : ([.ref a_e, .int x1, .int x2] : List Value) = av at hts ⊢
  generalize hw1 : W_e cI cM a_e a_e_temporaries a_e_arguments r_e_counter e_temporaries e_arguments = w1
  generalize hw0 : W_e cI cM a_e a_e_temporaries a_e_arguments e_counter e_temporaries e_arguments = w0 at hD hS ⊢
  have hP : va_P D vwCl (W_e cI cM a_e a_e_temporaries a_e_arguments e_counter e_temporaries e_arguments) s.heap := hP
  have hD : va_D (fun q => q ∈ w0.map (·.1)) (W_e cI cM a_e a_e_temporaries a_e_arguments e_counter e_temporaries e_arguments) := by rw [hw0]; exact hD
  have SS : CallFix p m c cX2_valueOf 3 s av.toArray wsX2_valueOf RX2 := ⟨hx, hb, hml, hown, hts⟩
  have hinX2 : ∀ w ∈ u_ws RX2 TX2 3, w ∈ wsX2_valueOf := by decide +kernel
  have lk9 := hts (.fieldLink RX2 9 "SignatureChanger$Evaluation" "temporaries" "[I") (List.mem_of_getElem? (i := 1) rfl)
  have cw31 : CallW rmX2_valueOf s av.toArray RX2 RX2 31 yX2_readOrTick cX2_readOrTick 3 (some .int) wsX2_readOrTick rmX2_readOrTick 0 0 1 := cwV 1 hts gX2_valueOf_X2_readOrTick rfl rfl rfl (by decide +kernel) ⟨Nat.le_of_ble_eq_true rfl, Nat.le_of_ble_eq_true rfl⟩
  unfold fX2_valueOf at h
  refine lv_iload_n hx hb dX2_valueOf_0 rfl (lv_at hl 1 rfl) ?_
  refine lv_if_ne (tgt := 6) hx hb dX2_valueOf_1 (by decide) (fun c1 => ?_) (fun c1 => ?_)
  · have h := ifn h c1
    refine lv_iload_n hx hb dX2_valueOf_6 rfl (lv_at hl 1 rfl) ?_
    refine lv_iconst (v := 3) hx hb dX2_valueOf_7 (by decide) ?_
    refine lv_icmp_ne (tgt := 20) hx hb dX2_valueOf_8 (by decide) (fun c2 => ?_) (fun c2 => ?_)
    · have h := ifn h c2
      refine lv_aload_n hx hb dX2_valueOf_20 rfl (lv_at hl 0 rfl) ?_
      refine lv_iload_n hx hb dX2_valueOf_21 rfl (lv_at hl 1 rfl) ?_
      obtain ⟨v3, g4, ev3, h⟩ := bn2_some h
      refine kVI (As := [.int x1]) (rest := []) (st1 := [.int v3]) SS hKK (qX2_readOrTick l D cI cM a_e a_e_temporaries a_e_arguments e_counter e_temporaries e_arguments x1 v3 g4 ev3) cw31 hP hD hS [0, 1, 2] rfl rfl rfl rfl 0 2 rfl rfl rfl hl.1 rfl (Nat.le_of_ble_eq_true rfl) dX2_valueOf_22 ⟨Nat.zero_le _, Nat.zero_le _⟩ rfl (fun H locs hP hD hS => ?_)
      have hP : va_P D vwCl (W_e cI cM a_e a_e_temporaries a_e_arguments g4 e_temporaries e_arguments) H := hP
      have hD : va_D _ (W_e cI cM a_e a_e_temporaries a_e_arguments g4 e_temporaries e_arguments) := hD
      simp only [Option.some.injEq, Prod.mk.injEq] at h
      obtain ⟨e0, e1⟩ := h
      exact kRetI hx hb hr hlk e0 (by rw [← hw1, ← e1]; exact hP) hS dX2_valueOf_25
    · have h := ifp h c2
      refine lv_aload_n hx hb dX2_valueOf_11 rfl (lv_at hl 0 rfl) ?_
      refine va_get (D := D) (ci := 2) (v := .ref a_e_temporaries) (C := RX2) (T := TX2) (N := 3) hx hb hts hinX2 hown hKK.1 hP 0 rfl rfl 1 (by decide) lk9 (fun _ h9 => h9) rfl dX2_valueOf_12 ?_
      refine lv_iload_n hx hb dX2_valueOf_15 rfl (lv_at hl 2 rfl) ?_
      obtain ⟨v5, iv5, ev5, h⟩ := rd_some h
      refine kAld hx hb hKK hP 1 rfl iv5 ev5 dX2_valueOf_16 ?_
      refine lv_goto (tgt := 25) hx hb dX2_valueOf_17 (by decide) ?_
      simp only [Option.some.injEq, Prod.mk.injEq] at h
      obtain ⟨e0, e1⟩ := h
      exact kRetI hx hb hr hlk e0 (by rw [← hw1, ← e1]; exact hP) hS dX2_valueOf_25
  · have h := ifp h c1
    refine lv_iload_n hx hb dX2_valueOf_4 rfl (lv_at hl 2 rfl) ?_
    simp only [Option.some.injEq, Prod.mk.injEq] at h
    obtain ⟨e0, e1⟩ := h
    exact kRetI hx hb hr hlk e0 (by rw [← hw1, ← e1]; exact hP) hS dX2_valueOf_5
