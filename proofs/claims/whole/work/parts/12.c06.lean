/-! generated: X6.executedBy X6.clashOf X6.bridgesServe X6.bridgesFor X7.exists X7.isClass X7.areInterfaces X7.allowsSuperclass X7.inheritedFrom X7.add X8.beginEdit X8.declareType X8.isSignature X8.declareMethod X8.declareCall X8.isValue X8.isExpression X8.setArgument -/
set_option maxHeartbeats 8000000 in
set_option maxRecDepth 100000 in
theorem qX6_executedBy (l : Launch) (D : va_G) (cI cM : ClassId) (a_o a_t a_t_supertypes a_m a_m_type a_m_name a_m_arity a_m_keys a_m_defaults a_k a_k_staticType a_k_dynamicType a_k_target a_k_argumentCounts a_k_temporaryCounts a_k_keys a_k_kinds a_k_values a_k_temporaryKinds a_k_newKinds a_k_newValues : Nat) (t_count : Int32) (t_interfaceSet : Int32) (t_supertypes : Nat → Int32) (m_count : Int32) (m_type : Nat → Int32) (m_name : Nat → Int32) (m_arity : Nat → Int32) (m_keys : Nat → Int32) (m_defaults : Nat → Int32) (k_count : Int32) (k_frozenSet : Int32) (k_staticType : Nat → Int32) (k_dynamicType : Nat → Int32) (k_target : Nat → Int32) (k_argumentCounts : Nat → Int32) (k_temporaryCounts : Nat → Int32) (k_keys : Nat → Int32) (k_kinds : Nat → Int32) (k_values : Nat → Int32) (k_temporaryKinds : Nat → Int32) (k_newKinds : Nat → Int32) (k_newValues : Nat → Int32) (x1 : Int32) (r : Int32) (h : fX6_executedBy t_count t_interfaceSet t_supertypes m_count m_type m_name m_arity k_dynamicType k_target x1 = some r) : PM l yX6_executedBy wsX6_executedBy rmX6_executedBy D cI cM [.ref a_o, .int x1] (W_o_t_m_k cI cM a_o a_t a_t_supertypes a_m a_m_type a_m_name a_m_arity a_m_keys a_m_defaults a_k a_k_staticType a_k_dynamicType a_k_target a_k_argumentCounts a_k_temporaryCounts a_k_keys a_k_kinds a_k_values a_k_temporaryKinds a_k_newKinds a_k_newValues t_count t_interfaceSet t_supertypes m_count m_type m_name m_arity m_keys m_defaults k_count k_frozenSet k_staticType k_dynamicType k_target k_argumentCounts k_temporaryCounts k_keys k_kinds k_values k_temporaryKinds k_newKinds k_newValues) r := by
  refine PM.of (cc := cX6_executedBy) (maxL := 6) (ret := (some .int)) (by decide) rfl (Nat.le_of_ble_eq_true rfl) ?_
  intro p e s m below meth c ls hx hb hr hml hown hts hlk hP hKK hl
  have hown : s.vm.findClass RX6 = some m.cls := hown
  have hl : lv_has ls 6 [(0, .ref a_o), (1, .int x1)] := hl
  generalize hav : ([.ref a_o, .int x1] : List Value) = av at hts ⊢
  have SS : CallFix p m c cX6_executedBy 6 s av.toArray wsX6_executedBy RX6 := ⟨hx, hb, hml, hown, hts⟩
  have hinX0 : ∀ w ∈ u_ws RX0 TX0 13, w ∈ wsX6_executedBy := by decide +kernel
  have hinX5 : ∀ w ∈ u_ws RX5 TX5 6, w ∈ wsX6_executedBy := by decide +kernel
  have hinX6 : ∀ w ∈ u_ws RX6 TX6 3, w ∈ wsX6_executedBy := by decide +kernel
  have hinX7 : ∀ w ∈ u_ws RX7 TX7 3, w ∈ wsX6_executedBy := by decide +kernel
  have lk12 := hts (.fieldLink RX6 12 "SignatureChanger$Model" "types" "LSignatureChanger$Types;") (List.mem_of_getElem? (i := 6) rfl)
  have lk21 := hts (.fieldLink RX6 21 "SignatureChanger$Model" "methods" "LSignatureChanger$Methods;") (List.mem_of_getElem? (i := 1) rfl)
  have lk28 := hts (.fieldLink RX6 28 "SignatureChanger$Model" "calls" "LSignatureChanger$Calls;") (List.mem_of_getElem? (i := 3) rfl)
  have lk42 := hts (.fieldLink RX6 42 "SignatureChanger$Methods" "name" "[I") (List.mem_of_getElem? (i := 2) rfl)
  have lk46 := hts (.fieldLink RX6 46 "SignatureChanger$Methods" "arity" "[I") (List.mem_of_getElem? (i := 5) rfl)
  have lk67 := hts (.fieldLink RX6 67 "SignatureChanger$Types" "supertypes" "[I") (List.mem_of_getElem? (i := 7) rfl)
  have lk73 := hts (.fieldLink RX6 73 "SignatureChanger$Calls" "target" "[I") (List.mem_of_getElem? (i := 4) rfl)
  have lk76 := hts (.fieldLink RX6 76 "SignatureChanger$Calls" "dynamicType" "[I") (List.mem_of_getElem? (i := 8) rfl)
  have lk79 := hts (.fieldLink RX6 79 "SignatureChanger$Types" "interfaceSet" "I") (List.mem_of_getElem? (i := 9) rfl)
  have cw82 : CallW rmX6_executedBy s av.toArray RX6 RX6 82 yX6_classMethod cX6_classMethod 6 (some .int) wsX6_classMethod rmX6_classMethod 0 0 3 := cwV 3 hts gX6_executedBy_X6_classMethod rfl rfl rfl (by decide +kernel) ⟨Nat.le_of_ble_eq_true rfl, Nat.le_of_ble_eq_true rfl⟩
  have cw85 : CallW rmX6_executedBy s av.toArray RX6 RX6 85 yX6_interfaceMethod cX6_interfaceMethod 6 (some .int) wsX6_interfaceMethod rmX6_interfaceMethod 0 0 3 := cwV 3 hts gX6_executedBy_X6_interfaceMethod rfl rfl rfl (by decide +kernel) ⟨Nat.le_of_ble_eq_true rfl, Nat.le_of_ble_eq_true rfl⟩
  unfold fX6_executedBy at h
  refine lv_aload_n hx hb dX6_executedBy_0 rfl (lv_at hl 0 rfl) ?_
  refine va_get (D := D) (ci := 6) (v := .ref a_m) (C := RX6) (T := TX6) (N := 3) hx hb hts hinX6 hown hKK.1 hP 0 rfl rfl 1 (by decide) lk21 (fun _ h9 => h9) rfl dX6_executedBy_1 ?_
  refine va_get (D := D) (ci := 5) (v := .ref a_m_name) (C := RX5) (T := TX5) (N := 6) hx hb hts hinX5 hown hKK.1 hP 3 rfl rfl 2 (by decide) lk42 (fun _ h9 => h9) rfl dX6_executedBy_4 ?_
  refine lv_aload_n hx hb dX6_executedBy_7 rfl (lv_at hl 0 rfl) ?_
  refine va_get (D := D) (ci := 6) (v := .ref a_k) (C := RX6) (T := TX6) (N := 3) hx hb hts hinX6 hown hKK.1 hP 0 rfl rfl 2 (by decide) lk28 (fun _ h9 => h9) rfl dX6_executedBy_8 ?_
  refine va_get (D := D) (ci := 0) (v := .ref a_k_target) (C := RX0) (T := TX0) (N := 13) hx hb hts hinX0 hown hKK.1 hP 9 rfl rfl 4 (by decide) lk73 (fun _ h9 => h9) rfl dX6_executedBy_11 ?_
  refine lv_iload_n hx hb dX6_executedBy_14 rfl (lv_at hl 1 rfl) ?_
  obtain ⟨v1, iv1, ev1, h⟩ := rd_some h
  refine kAld hx hb hKK hP 12 rfl iv1 ev1 dX6_executedBy_15 ?_
  obtain ⟨v2, iv2, ev2, h⟩ := rd_some h
  refine kAld hx hb hKK hP 5 rfl iv2 ev2 dX6_executedBy_16 ?_
  refine lv_istore_n (lv' := [(2, .int v2), (0, .ref a_o), (1, .int x1)]) hx hb dX6_executedBy_17 rfl hl (by decide) rfl (fun ls hl => ?_)
  refine lv_aload_n hx hb dX6_executedBy_18 rfl (lv_at hl 1 rfl) ?_
  refine va_get (D := D) (ci := 6) (v := .ref a_m) (C := RX6) (T := TX6) (N := 3) hx hb hts hinX6 hown hKK.1 hP 0 rfl rfl 1 (by decide) lk21 (fun _ h9 => h9) rfl dX6_executedBy_19 ?_
  refine va_get (D := D) (ci := 5) (v := .ref a_m_arity) (C := RX5) (T := TX5) (N := 6) hx hb hts hinX5 hown hKK.1 hP 3 rfl rfl 3 (by decide) lk46 (fun _ h9 => h9) rfl dX6_executedBy_22 ?_
  refine lv_aload_n hx hb dX6_executedBy_25 rfl (lv_at hl 1 rfl) ?_
  refine va_get (D := D) (ci := 6) (v := .ref a_k) (C := RX6) (T := TX6) (N := 3) hx hb hts hinX6 hown hKK.1 hP 0 rfl rfl 2 (by decide) lk28 (fun _ h9 => h9) rfl dX6_executedBy_26 ?_
  refine va_get (D := D) (ci := 0) (v := .ref a_k_target) (C := RX0) (T := TX0) (N := 13) hx hb hts hinX0 hown hKK.1 hP 9 rfl rfl 4 (by decide) lk73 (fun _ h9 => h9) rfl dX6_executedBy_29 ?_
  refine lv_iload_n hx hb dX6_executedBy_32 rfl (lv_at hl 2 rfl) ?_
  obtain ⟨v3, iv3, ev3, h⟩ := rd_some h
  refine kAld hx hb hKK hP 12 rfl iv3 ev3 dX6_executedBy_33 ?_
  obtain ⟨v4, iv4, ev4, h⟩ := rd_some h
  refine kAld hx hb hKK hP 6 rfl iv4 ev4 dX6_executedBy_34 ?_
  refine lv_istore_n (lv' := [(3, .int v4), (2, .int v2), (0, .ref a_o), (1, .int x1)]) hx hb dX6_executedBy_35 rfl hl (by decide) rfl (fun ls hl => ?_)
  refine lv_aload_n hx hb dX6_executedBy_36 rfl (lv_at hl 2 rfl) ?_
  refine va_get (D := D) (ci := 6) (v := .ref a_t) (C := RX6) (T := TX6) (N := 3) hx hb hts hinX6 hown hKK.1 hP 0 rfl rfl 0 (by decide) lk12 (fun _ h9 => h9) rfl dX6_executedBy_37 ?_
  refine va_get (D := D) (ci := 7) (v := .ref a_t_supertypes) (C := RX7) (T := TX7) (N := 3) hx hb hts hinX7 hown hKK.1 hP 1 rfl rfl 2 (by decide) lk67 (fun _ h9 => h9) rfl dX6_executedBy_40 ?_
  refine lv_aload_n hx hb dX6_executedBy_43 rfl (lv_at hl 2 rfl) ?_
  refine va_get (D := D) (ci := 6) (v := .ref a_k) (C := RX6) (T := TX6) (N := 3) hx hb hts hinX6 hown hKK.1 hP 0 rfl rfl 2 (by decide) lk28 (fun _ h9 => h9) rfl dX6_executedBy_44 ?_
  refine va_get (D := D) (ci := 0) (v := .ref a_k_dynamicType) (C := RX0) (T := TX0) (N := 13) hx hb hts hinX0 hown hKK.1 hP 9 rfl rfl 3 (by decide) lk76 (fun _ h9 => h9) rfl dX6_executedBy_47 ?_
  refine lv_iload_n hx hb dX6_executedBy_50 rfl (lv_at hl 3 rfl) ?_
  obtain ⟨v5, iv5, ev5, h⟩ := rd_some h
  refine kAld hx hb hKK hP 11 rfl iv5 ev5 dX6_executedBy_51 ?_
  obtain ⟨v6, iv6, ev6, h⟩ := rd_some h
  refine kAld hx hb hKK hP 2 rfl iv6 ev6 dX6_executedBy_52 ?_
  refine lv_istore (lv' := [(4, .int v6), (3, .int v4), (2, .int v2), (0, .ref a_o), (1, .int x1)]) hx hb dX6_executedBy_53 hl (by decide) rfl (fun ls hl => ?_)
  refine lv_aload_n hx hb dX6_executedBy_55 rfl (lv_at hl 3 rfl) ?_
  refine lv_iload hx hb dX6_executedBy_56 (lv_at hl 0 rfl) ?_
  refine lv_aload_n hx hb dX6_executedBy_58 rfl (lv_at hl 3 rfl) ?_
  refine va_get (D := D) (ci := 6) (v := .ref a_t) (C := RX6) (T := TX6) (N := 3) hx hb hts hinX6 hown hKK.1 hP 0 rfl rfl 0 (by decide) lk12 (fun _ h9 => h9) rfl dX6_executedBy_59 ?_
  refine va_get (D := D) (ci := 7) (v := .int t_interfaceSet) (C := RX7) (T := TX7) (N := 3) hx hb hts hinX7 hown hKK.1 hP 1 rfl rfl 1 (by decide) lk79 (fun _ h9 => h9) rfl dX6_executedBy_62 ?_
  refine lv_iconst (v := (-1)) hx hb dX6_executedBy_65 (by decide) ?_
  refine lv_ixor hx hb dX6_executedBy_66 ?_
  refine lv_iand hx hb dX6_executedBy_67 ?_
  refine lv_iload_n hx hb dX6_executedBy_68 rfl (lv_at hl 2 rfl) ?_
  refine lv_iload_n hx hb dX6_executedBy_69 rfl (lv_at hl 1 rfl) ?_
  obtain ⟨v7, ev7, h⟩ := bn_some h
  have hs8 : va_P D vwCl (W_o_t_m_k cI cM a_o a_t a_t_supertypes a_m a_m_type a_m_name a_m_arity a_m_keys a_m_defaults a_k a_k_staticType a_k_dynamicType a_k_target a_k_argumentCounts a_k_temporaryCounts a_k_keys a_k_kinds a_k_values a_k_temporaryKinds a_k_newKinds a_k_newValues t_count t_interfaceSet t_supertypes m_count m_type m_name m_arity m_keys m_defaults k_count k_frozenSet k_staticType k_dynamicType k_target k_argumentCounts k_temporaryCounts k_keys k_kinds k_values k_temporaryKinds k_newKinds k_newValues) _ := blkP (Bs := [B_o cI cM a_o a_t a_m a_k , B_t cI cM a_t a_t_supertypes t_count t_interfaceSet t_supertypes, B_m cI cM a_m a_m_type a_m_name a_m_arity a_m_keys a_m_defaults m_count m_type m_name m_arity m_keys m_defaults, B_k cI cM a_k a_k_staticType a_k_dynamicType a_k_target a_k_argumentCounts a_k_temporaryCounts a_k_keys a_k_kinds a_k_values a_k_temporaryKinds a_k_newKinds a_k_newValues k_count k_frozenSet k_staticType k_dynamicType k_target k_argumentCounts k_temporaryCounts k_keys k_kinds k_values k_temporaryKinds k_newKinds k_newValues]) hP [0, 1, 2, 3] (C0 := [B_o cI cM a_o a_t a_m a_k , B_t cI cM a_t a_t_supertypes t_count t_interfaceSet t_supertypes, B_m cI cM a_m a_m_type a_m_name a_m_arity a_m_keys a_m_defaults m_count m_type m_name m_arity m_keys m_defaults, B_k cI cM a_k a_k_staticType a_k_dynamicType a_k_target a_k_argumentCounts a_k_temporaryCounts a_k_keys a_k_kinds a_k_values a_k_temporaryKinds a_k_newKinds a_k_newValues k_count k_frozenSet k_staticType k_dynamicType k_target k_argumentCounts k_temporaryCounts k_keys k_kinds k_values k_temporaryKinds k_newKinds k_newValues]) rfl rfl
  refine kV (As := [.int (v6 &&& (t_interfaceSet ^^^ (-1))), .int v2, .int v4]) (rest := []) SS hKK (qX6_classMethod l D cI cM a_o a_t a_t_supertypes a_m a_m_type a_m_name a_m_arity a_m_keys a_m_defaults a_k a_k_staticType a_k_dynamicType a_k_target a_k_argumentCounts a_k_temporaryCounts a_k_keys a_k_kinds a_k_values a_k_temporaryKinds a_k_newKinds a_k_newValues t_count t_interfaceSet t_supertypes m_count m_type m_name m_arity m_keys m_defaults k_count k_frozenSet k_staticType k_dynamicType k_target k_argumentCounts k_temporaryCounts k_keys k_kinds k_values k_temporaryKinds k_newKinds k_newValues (v6 &&& (t_interfaceSet ^^^ (-1))) v2 v4 v7 ev7) cw82 hs8 0 6 rfl rfl rfl hl.1 rfl (Nat.le_of_ble_eq_true rfl) dX6_executedBy_70 ⟨Nat.zero_le _, Nat.zero_le _⟩ ?_
  refine lv_istore (lv' := [(5, .int v7), (4, .int v6), (3, .int v4), (2, .int v2), (0, .ref a_o), (1, .int x1)]) hx hb dX6_executedBy_73 hl (by decide) rfl (fun ls hl => ?_)
  refine lv_iload hx hb dX6_executedBy_75 (lv_at hl 0 rfl) ?_
  refine lv_bipush (v := (-9)) hx hb dX6_executedBy_77 (by decide) ?_
  refine lv_icmp_eq (tgt := 87) hx hb dX6_executedBy_79 (by decide) (fun c9 => ?_) (fun c9 => ?_)
  · have h := ifp h c9
    refine lv_aload_n hx hb dX6_executedBy_87 rfl (lv_at hl 4 rfl) ?_
    refine lv_iload hx hb dX6_executedBy_88 (lv_at hl 1 rfl) ?_
    refine lv_aload_n hx hb dX6_executedBy_90 rfl (lv_at hl 4 rfl) ?_
    refine va_get (D := D) (ci := 6) (v := .ref a_t) (C := RX6) (T := TX6) (N := 3) hx hb hts hinX6 hown hKK.1 hP 0 rfl rfl 0 (by decide) lk12 (fun _ h9 => h9) rfl dX6_executedBy_91 ?_
    refine va_get (D := D) (ci := 7) (v := .int t_interfaceSet) (C := RX7) (T := TX7) (N := 3) hx hb hts hinX7 hown hKK.1 hP 1 rfl rfl 1 (by decide) lk79 (fun _ h9 => h9) rfl dX6_executedBy_94 ?_
    refine lv_iand hx hb dX6_executedBy_97 ?_
    refine lv_iload_n hx hb dX6_executedBy_98 rfl (lv_at hl 3 rfl) ?_
    refine lv_iload_n hx hb dX6_executedBy_99 rfl (lv_at hl 2 rfl) ?_
    obtain ⟨v10, ev10, h⟩ := bn_some h
    refine kV (As := [.int (v6 &&& t_interfaceSet), .int v2, .int v4]) (rest := []) SS hKK (qX6_interfaceMethod l D cI cM a_o a_t a_t_supertypes a_m a_m_type a_m_name a_m_arity a_m_keys a_m_defaults a_k a_k_staticType a_k_dynamicType a_k_target a_k_argumentCounts a_k_temporaryCounts a_k_keys a_k_kinds a_k_values a_k_temporaryKinds a_k_newKinds a_k_newValues t_count t_interfaceSet t_supertypes m_count m_type m_name m_arity m_keys m_defaults k_count k_frozenSet k_staticType k_dynamicType k_target k_argumentCounts k_temporaryCounts k_keys k_kinds k_values k_temporaryKinds k_newKinds k_newValues (v6 &&& t_interfaceSet) v2 v4 v10 ev10) cw85 hs8 0 6 rfl rfl rfl hl.1 rfl (Nat.le_of_ble_eq_true rfl) dX6_executedBy_100 ⟨Nat.zero_le _, Nat.zero_le _⟩ ?_
    exact kRet hx hb hr hlk (Option.some.inj h) dX6_executedBy_103
  · have h := ifn h c9
    refine lv_iload hx hb dX6_executedBy_82 (lv_at hl 0 rfl) ?_
    refine lv_goto (tgt := 103) hx hb dX6_executedBy_84 (by decide) ?_
    exact kRet hx hb hr hlk (Option.some.inj h) dX6_executedBy_103
set_option maxHeartbeats 8000000 in
set_option maxRecDepth 100000 in
theorem qX6_clashOf (l : Launch) (D : va_G) (cI cM : ClassId) (a_o a_t a_t_supertypes a_m a_m_type a_m_name a_m_arity a_m_keys a_m_defaults a_k a_k_staticType a_k_dynamicType a_k_target a_k_argumentCounts a_k_temporaryCounts a_k_keys a_k_kinds a_k_values a_k_temporaryKinds a_k_newKinds a_k_newValues a_d a_d_sources a_d_keys a_d_defaults : Nat) (t_count : Int32) (t_interfaceSet : Int32) (t_supertypes : Nat → Int32) (m_count : Int32) (m_type : Nat → Int32) (m_name : Nat → Int32) (m_arity : Nat → Int32) (m_keys : Nat → Int32) (m_defaults : Nat → Int32) (k_count : Int32) (k_frozenSet : Int32) (k_staticType : Nat → Int32) (k_dynamicType : Nat → Int32) (k_target : Nat → Int32) (k_argumentCounts : Nat → Int32) (k_temporaryCounts : Nat → Int32) (k_keys : Nat → Int32) (k_kinds : Nat → Int32) (k_values : Nat → Int32) (k_temporaryKinds : Nat → Int32) (k_newKinds : Nat → Int32) (k_newValues : Nat → Int32) (d_open : Int32) (d_method : Int32) (d_family : Int32) (d_oldCount : Int32) (d_keptSet : Int32) (d_count : Int32) (d_sources : Nat → Int32) (d_keys : Nat → Int32) (d_defaults : Nat → Int32) (d_usedKeys : Int32) (r : Int32) (h : fX6_clashOf t_count t_supertypes m_count m_type m_name m_arity d_method d_family d_count = some r) : PM l yX6_clashOf wsX6_clashOf rmX6_clashOf D cI cM [.ref a_o, .ref a_d] (W_o_t_m_k_d cI cM a_o a_t a_t_supertypes a_m a_m_type a_m_name a_m_arity a_m_keys a_m_defaults a_k a_k_staticType a_k_dynamicType a_k_target a_k_argumentCounts a_k_temporaryCounts a_k_keys a_k_kinds a_k_values a_k_temporaryKinds a_k_newKinds a_k_newValues a_d a_d_sources a_d_keys a_d_defaults t_count t_interfaceSet t_supertypes m_count m_type m_name m_arity m_keys m_defaults k_count k_frozenSet k_staticType k_dynamicType k_target k_argumentCounts k_temporaryCounts k_keys k_kinds k_values k_temporaryKinds k_newKinds k_newValues d_open d_method d_family d_oldCount d_keptSet d_count d_sources d_keys d_defaults d_usedKeys) r := by
  refine PM.of (cc := cX6_clashOf) (maxL := 4) (ret := (some .int)) (by decide) rfl (Nat.le_of_ble_eq_true rfl) ?_
  intro p e s m below meth c ls hx hb hr hml hown hts hlk hP hKK hl
  have hown : s.vm.findClass RX6 = some m.cls := hown
  have hl : lv_has ls 4 [(0, .ref a_o), (1, .ref a_d)] := hl
  generalize hav : ([.ref a_o, .ref a_d] : List Value) = av at hts ⊢
  have SS : CallFix p m c cX6_clashOf 4 s av.toArray wsX6_clashOf RX6 := ⟨hx, hb, hml, hown, hts⟩
  have hinX1 : ∀ w ∈ u_ws RX1 TX1 10, w ∈ wsX6_clashOf := by decide +kernel
  have hinX5 : ∀ w ∈ u_ws RX5 TX5 6, w ∈ wsX6_clashOf := by decide +kernel
  have hinX6 : ∀ w ∈ u_ws RX6 TX6 3, w ∈ wsX6_clashOf := by decide +kernel
  have lk12 := hts (.fieldLink RX6 12 "SignatureChanger$Model" "types" "LSignatureChanger$Types;") (List.mem_of_getElem? (i := 1) rfl)
  have lk21 := hts (.fieldLink RX6 21 "SignatureChanger$Model" "methods" "LSignatureChanger$Methods;") (List.mem_of_getElem? (i := 2) rfl)
  have lk42 := hts (.fieldLink RX6 42 "SignatureChanger$Methods" "name" "[I") (List.mem_of_getElem? (i := 4) rfl)
  have lk102 := hts (.fieldLink RX6 102 "SignatureChanger$Draft" "family" "I") (List.mem_of_getElem? (i := 3) rfl)
  have lk107 := hts (.fieldLink RX6 107 "SignatureChanger$Draft" "method" "I") (List.mem_of_getElem? (i := 5) rfl)
  have lk110 := hts (.fieldLink RX6 110 "SignatureChanger$Draft" "count" "I") (List.mem_of_getElem? (i := 6) rfl)
  have cw57 : CallW rmX6_clashOf s av.toArray RX6 RX5 57 yX5_typesOf cX5_typesOf 4 (some .int) wsX5_typesOf rmX5_typesOf 0 0 1 := cwV 1 hts gX6_clashOf_X5_typesOf rfl rfl rfl (by decide +kernel) ⟨Nat.le_of_ble_eq_true rfl, Nat.le_of_ble_eq_true rfl⟩
  have cw60 : CallW rmX6_clashOf s av.toArray RX6 RX7 60 yX7_connectedWith cX7_connectedWith 4 (some .int) wsX7_connectedWith rmX7_connectedWith 0 0 1 := cwV 1 hts gX6_clashOf_X7_connectedWith rfl rfl rfl (by decide +kernel) ⟨Nat.le_of_ble_eq_true rfl, Nat.le_of_ble_eq_true rfl⟩
  have cw63 : CallW rmX6_clashOf s av.toArray RX6 RX5 63 yX5_withSignature cX5_withSignature 7 (some .int) wsX5_withSignature rmX5_withSignature 0 0 3 := cwV 3 hts gX6_clashOf_X5_withSignature rfl rfl rfl (by decide +kernel) ⟨Nat.le_of_ble_eq_true rfl, Nat.le_of_ble_eq_true rfl⟩
  have cw70 : CallW rmX6_clashOf s av.toArray RX6 RX5 70 yX5_smallest cX5_smallest 3 (some .int) wsX5_smallest rmX5_smallest 0 0 1 := cwV 1 hts gX6_clashOf_X5_smallest rfl rfl rfl (by decide +kernel) ⟨Nat.le_of_ble_eq_true rfl, Nat.le_of_ble_eq_true rfl⟩
  unfold fX6_clashOf at h
  refine lv_aload_n hx hb dX6_clashOf_0 rfl (lv_at hl 0 rfl) ?_
  refine va_get (D := D) (ci := 6) (v := .ref a_t) (C := RX6) (T := TX6) (N := 3) hx hb hts hinX6 hown hKK.1 hP 0 rfl rfl 0 (by decide) lk12 (fun _ h9 => h9) rfl dX6_clashOf_1 ?_
  refine lv_aload_n hx hb dX6_clashOf_4 rfl (lv_at hl 0 rfl) ?_
  refine va_get (D := D) (ci := 6) (v := .ref a_m) (C := RX6) (T := TX6) (N := 3) hx hb hts hinX6 hown hKK.1 hP 0 rfl rfl 1 (by decide) lk21 (fun _ h9 => h9) rfl dX6_clashOf_5 ?_
  refine lv_aload_n hx hb dX6_clashOf_8 rfl (lv_at hl 1 rfl) ?_
  refine va_get (D := D) (ci := 1) (v := .int d_family) (C := RX1) (T := TX1) (N := 10) hx hb hts hinX1 hown hKK.1 hP 21 rfl rfl 2 (by decide) lk102 (fun _ h9 => h9) rfl dX6_clashOf_9 ?_
  obtain ⟨v1, ev1, h⟩ := bn_some h
  have hs2 : va_P D vwCl (W_m cI cM a_m a_m_type a_m_name a_m_arity a_m_keys a_m_defaults m_count m_type m_name m_arity m_keys m_defaults) _ := blkP (Bs := [B_o cI cM a_o a_t a_m a_k , B_t cI cM a_t a_t_supertypes t_count t_interfaceSet t_supertypes, B_m cI cM a_m a_m_type a_m_name a_m_arity a_m_keys a_m_defaults m_count m_type m_name m_arity m_keys m_defaults, B_k cI cM a_k a_k_staticType a_k_dynamicType a_k_target a_k_argumentCounts a_k_temporaryCounts a_k_keys a_k_kinds a_k_values a_k_temporaryKinds a_k_newKinds a_k_newValues k_count k_frozenSet k_staticType k_dynamicType k_target k_argumentCounts k_temporaryCounts k_keys k_kinds k_values k_temporaryKinds k_newKinds k_newValues, B_d cI cM a_d a_d_sources a_d_keys a_d_defaults d_open d_method d_family d_oldCount d_keptSet d_count d_sources d_keys d_defaults d_usedKeys]) hP [2] (C0 := [B_m cI cM a_m a_m_type a_m_name a_m_arity a_m_keys a_m_defaults m_count m_type m_name m_arity m_keys m_defaults]) rfl rfl
  refine kV (As := [.int d_family]) (rest := [.ref a_t]) SS hKK (qX5_typesOf l D cI cM a_m a_m_type a_m_name a_m_arity a_m_keys a_m_defaults m_count m_type m_name m_arity m_keys m_defaults d_family v1 ev1) cw57 hs2 0 5 rfl rfl rfl hl.1 rfl (Nat.le_of_ble_eq_true rfl) dX6_clashOf_12 ⟨Nat.zero_le _, Nat.zero_le _⟩ ?_
  obtain ⟨v3, ev3, h⟩ := bn_some h
  have hs4 : va_P D vwCl (W_t cI cM a_t a_t_supertypes t_count t_interfaceSet t_supertypes) _ := blkP (Bs := [B_o cI cM a_o a_t a_m a_k , B_t cI cM a_t a_t_supertypes t_count t_interfaceSet t_supertypes, B_m cI cM a_m a_m_type a_m_name a_m_arity a_m_keys a_m_defaults m_count m_type m_name m_arity m_keys m_defaults, B_k cI cM a_k a_k_staticType a_k_dynamicType a_k_target a_k_argumentCounts a_k_temporaryCounts a_k_keys a_k_kinds a_k_values a_k_temporaryKinds a_k_newKinds a_k_newValues k_count k_frozenSet k_staticType k_dynamicType k_target k_argumentCounts k_temporaryCounts k_keys k_kinds k_values k_temporaryKinds k_newKinds k_newValues, B_d cI cM a_d a_d_sources a_d_keys a_d_defaults d_open d_method d_family d_oldCount d_keptSet d_count d_sources d_keys d_defaults d_usedKeys]) hP [1] (C0 := [B_t cI cM a_t a_t_supertypes t_count t_interfaceSet t_supertypes]) rfl rfl
  refine kV (As := [.int v1]) (rest := []) SS hKK (qX7_connectedWith l D cI cM a_t a_t_supertypes t_count t_interfaceSet t_supertypes v1 v3 ev3) cw60 hs4 0 7 rfl rfl rfl hl.1 rfl (Nat.le_of_ble_eq_true rfl) dX6_clashOf_15 ⟨Nat.zero_le _, Nat.zero_le _⟩ ?_
  refine lv_istore_n (lv' := [(2, .int v3), (0, .ref a_o), (1, .ref a_d)]) hx hb dX6_clashOf_18 rfl hl (by decide) rfl (fun ls hl => ?_)
  refine lv_aload_n hx hb dX6_clashOf_19 rfl (lv_at hl 1 rfl) ?_
  refine va_get (D := D) (ci := 6) (v := .ref a_m) (C := RX6) (T := TX6) (N := 3) hx hb hts hinX6 hown hKK.1 hP 0 rfl rfl 1 (by decide) lk21 (fun _ h9 => h9) rfl dX6_clashOf_20 ?_
  refine lv_aload_n hx hb dX6_clashOf_23 rfl (lv_at hl 1 rfl) ?_
  refine va_get (D := D) (ci := 6) (v := .ref a_m) (C := RX6) (T := TX6) (N := 3) hx hb hts hinX6 hown hKK.1 hP 0 rfl rfl 1 (by decide) lk21 (fun _ h9 => h9) rfl dX6_clashOf_24 ?_
  refine va_get (D := D) (ci := 5) (v := .ref a_m_name) (C := RX5) (T := TX5) (N := 6) hx hb hts hinX5 hown hKK.1 hP 3 rfl rfl 2 (by decide) lk42 (fun _ h9 => h9) rfl dX6_clashOf_27 ?_
  refine lv_aload_n hx hb dX6_clashOf_30 rfl (lv_at hl 2 rfl) ?_
  refine va_get (D := D) (ci := 1) (v := .int d_method) (C := RX1) (T := TX1) (N := 10) hx hb hts hinX1 hown hKK.1 hP 21 rfl rfl 1 (by decide) lk107 (fun _ h9 => h9) rfl dX6_clashOf_31 ?_
  obtain ⟨v5, iv5, ev5, h⟩ := rd_some h
  refine kAld hx hb hKK hP 5 rfl iv5 ev5 dX6_clashOf_34 ?_
  refine lv_aload_n hx hb dX6_clashOf_35 rfl (lv_at hl 2 rfl) ?_
  refine va_get (D := D) (ci := 1) (v := .int d_count) (C := RX1) (T := TX1) (N := 10) hx hb hts hinX1 hown hKK.1 hP 21 rfl rfl 5 (by decide) lk110 (fun _ h9 => h9) rfl dX6_clashOf_36 ?_
  refine lv_iload_n hx hb dX6_clashOf_39 rfl (lv_at hl 0 rfl) ?_
  obtain ⟨v6, ev6, h⟩ := bn_some h
  refine kV (As := [.int v5, .int d_count, .int v3]) (rest := []) SS hKK (qX5_withSignature l D cI cM a_m a_m_type a_m_name a_m_arity a_m_keys a_m_defaults m_count m_type m_name m_arity m_keys m_defaults v5 d_count v3 v6 ev6) cw63 hs2 0 5 rfl rfl rfl hl.1 rfl (Nat.le_of_ble_eq_true rfl) dX6_clashOf_40 ⟨Nat.zero_le _, Nat.zero_le _⟩ ?_
  refine lv_istore_n (lv' := [(3, .int v6), (2, .int v3), (0, .ref a_o), (1, .ref a_d)]) hx hb dX6_clashOf_43 rfl hl (by decide) rfl (fun ls hl => ?_)
  refine lv_aload_n hx hb dX6_clashOf_44 rfl (lv_at hl 2 rfl) ?_
  refine va_get (D := D) (ci := 6) (v := .ref a_m) (C := RX6) (T := TX6) (N := 3) hx hb hts hinX6 hown hKK.1 hP 0 rfl rfl 1 (by decide) lk21 (fun _ h9 => h9) rfl dX6_clashOf_45 ?_
  refine lv_iload_n hx hb dX6_clashOf_48 rfl (lv_at hl 0 rfl) ?_
  refine lv_aload_n hx hb dX6_clashOf_49 rfl (lv_at hl 3 rfl) ?_
  refine va_get (D := D) (ci := 1) (v := .int d_family) (C := RX1) (T := TX1) (N := 10) hx hb hts hinX1 hown hKK.1 hP 21 rfl rfl 2 (by decide) lk102 (fun _ h9 => h9) rfl dX6_clashOf_50 ?_
  refine lv_iconst (v := (-1)) hx hb dX6_clashOf_53 (by decide) ?_
  refine lv_ixor hx hb dX6_clashOf_54 ?_
  refine lv_iand hx hb dX6_clashOf_55 ?_
  obtain ⟨v7, ev7, h⟩ := bn_some h
  refine kV (As := [.int (v6 &&& (d_family ^^^ (-1)))]) (rest := []) SS hKK (qX5_smallest l D cI cM a_m a_m_type a_m_name a_m_arity a_m_keys a_m_defaults m_count m_type m_name m_arity m_keys m_defaults (v6 &&& (d_family ^^^ (-1))) v7 ev7) cw70 hs2 0 5 rfl rfl rfl hl.1 rfl (Nat.le_of_ble_eq_true rfl) dX6_clashOf_56 ⟨Nat.zero_le _, Nat.zero_le _⟩ ?_
  exact kRet hx hb hr hlk (Option.some.inj h) dX6_clashOf_59
set_option maxHeartbeats 8000000 in
set_option maxRecDepth 100000 in
theorem qX6_bridgesServe (l : Launch) (D : va_G) (cI cM : ClassId) (a_o a_t a_t_supertypes a_m a_m_type a_m_name a_m_arity a_m_keys a_m_defaults a_k a_k_staticType a_k_dynamicType a_k_target a_k_argumentCounts a_k_temporaryCounts a_k_keys a_k_kinds a_k_values a_k_temporaryKinds a_k_newKinds a_k_newValues : Nat) (t_count : Int32) (t_interfaceSet : Int32) (t_supertypes : Nat → Int32) (m_count : Int32) (m_type : Nat → Int32) (m_name : Nat → Int32) (m_arity : Nat → Int32) (m_keys : Nat → Int32) (m_defaults : Nat → Int32) (k_count : Int32) (k_frozenSet : Int32) (k_staticType : Nat → Int32) (k_dynamicType : Nat → Int32) (k_target : Nat → Int32) (k_argumentCounts : Nat → Int32) (k_temporaryCounts : Nat → Int32) (k_keys : Nat → Int32) (k_kinds : Nat → Int32) (k_values : Nat → Int32) (k_temporaryKinds : Nat → Int32) (k_newKinds : Nat → Int32) (k_newValues : Nat → Int32) (x1 : Int32) (x2 : Int32) (r : Int32) (h : fX6_bridgesServe t_supertypes k_count k_staticType x1 x2 = some r) : PM l yX6_bridgesServe wsX6_bridgesServe rmX6_bridgesServe D cI cM [.ref a_o, .int x1, .int x2] (W_o_t_m_k cI cM a_o a_t a_t_supertypes a_m a_m_type a_m_name a_m_arity a_m_keys a_m_defaults a_k a_k_staticType a_k_dynamicType a_k_target a_k_argumentCounts a_k_temporaryCounts a_k_keys a_k_kinds a_k_values a_k_temporaryKinds a_k_newKinds a_k_newValues t_count t_interfaceSet t_supertypes m_count m_type m_name m_arity m_keys m_defaults k_count k_frozenSet k_staticType k_dynamicType k_target k_argumentCounts k_temporaryCounts k_keys k_kinds k_values k_temporaryKinds k_newKinds k_newValues) r := by
  refine PM.of (cc := cX6_bridgesServe) (maxL := 5) (ret := (some .boolean)) (by decide) rfl (Nat.le_of_ble_eq_true rfl) ?_
  intro p e s m below meth c ls hx hb hr hml hown hts hlk hP hKK hl
  have hown : s.vm.findClass RX6 = some m.cls := hown
  have hl : lv_has ls 5 [(0, .ref a_o), (1, .int x1), (2, .int x2)] := hl
  generalize hav : ([.ref a_o, .int x1, .int x2] : List Value) = av at hts ⊢
  have SS : CallFix p m c cX6_bridgesServe 5 s av.toArray wsX6_bridgesServe RX6 := ⟨hx, hb, hml, hown, hts⟩
  have hinX0 : ∀ w ∈ u_ws RX0 TX0 13, w ∈ wsX6_bridgesServe := by decide +kernel
  have hinX6 : ∀ w ∈ u_ws RX6 TX6 3, w ∈ wsX6_bridgesServe := by decide +kernel
  have hinX7 : ∀ w ∈ u_ws RX7 TX7 3, w ∈ wsX6_bridgesServe := by decide +kernel
  have lk12 := hts (.fieldLink RX6 12 "SignatureChanger$Model" "types" "LSignatureChanger$Types;") (List.mem_of_getElem? (i := 3) rfl)
  have lk28 := hts (.fieldLink RX6 28 "SignatureChanger$Model" "calls" "LSignatureChanger$Calls;") (List.mem_of_getElem? (i := 1) rfl)
  have lk67 := hts (.fieldLink RX6 67 "SignatureChanger$Types" "supertypes" "[I") (List.mem_of_getElem? (i := 4) rfl)
  have lk125 := hts (.fieldLink RX6 125 "SignatureChanger$Calls" "count" "I") (List.mem_of_getElem? (i := 2) rfl)
  have lk126 := hts (.fieldLink RX6 126 "SignatureChanger$Calls" "staticType" "[I") (List.mem_of_getElem? (i := 5) rfl)
  have cw89 : va_CN rmX6_bridgesServe s av.toArray RX6 89 yX8_contains RX8 cX8_contains 2 (some .boolean) wsX8_contains rmX8_contains 0 0 2 ∧ (Cond.static yX8_contains).before av.toArray s = true ∧ True := ⟨va_cnB 2 hts gX6_bridgesServe_X8_contains_n89 rfl rfl rfl (hKK.2.at 17 rfl) (hts (.initialized RX8) (List.mem_of_getElem? (i := 7) rfl)) (by decide +kernel) ⟨Nat.le_of_ble_eq_true rfl, Nat.le_of_ble_eq_true rfl⟩, hts (.static yX8_contains) (List.mem_of_getElem? (i := 6) rfl), trivial⟩
  have F40 : ∀ (k2 : Int32 → Int32 → Int32 → Option (Int32)) (hk2 : ∀ (u1 : Int32) (u2 : Int32) (u3 : Int32), k2 u1 u2 u3 = some r → ∀ ls : Array Slot, lv_has ls 5 [(0, .ref a_o), (1, .int u1), (2, .int u2), (3, .int u3)] → WP p l e rmX6_bridgesServe s m av below meth c r 2 ls []), ∀ (y1 : Int32) (y2 : Int32) (y3 : Int32) (s0 : Int32), jX6_bridgesServe_40 t_supertypes k_count k_staticType k2 y1 y2 y3 s0 = some r → ∀ ls : Array Slot, lv_has ls 5 [(0, .ref a_o), (1, .int y1), (2, .int y2), (3, .int y3)] → WP p l e rmX6_bridgesServe s m av below meth c r 40 ls [.int s0] := by
    intro k2 hk2
    intro y1 y2 y3 s0 h ls hl
    unfold jX6_bridgesServe_40 at h
    refine lv_istore (lv' := [(4, .int s0), (0, .ref a_o), (1, .int y1), (2, .int y2), (3, .int y3)]) hx hb dX6_bridgesServe_40 hl (by decide) rfl (fun ls hl => ?_)
    refine lv_iload_n hx hb dX6_bridgesServe_42 rfl (lv_at hl 3 rfl) ?_
    refine lv_iload_n hx hb dX6_bridgesServe_43 rfl (lv_at hl 4 rfl) ?_
    obtain ⟨v1, ev1, h⟩ := bn_some h
    refine kSN (As := [.int y2, .int y3]) (rest := []) SS hKK (qX8_contains l D cI cM y2 y3 v1 ev1) cw89 va_P_nil rfl hl.1 rfl (Nat.le_of_ble_eq_true rfl) dX6_bridgesServe_44 ⟨Nat.zero_le _, Nat.zero_le _⟩ ?_
    refine lv_if_eq (tgt := 57) hx hb dX6_bridgesServe_47 (by decide) (fun c2 => ?_) (fun c2 => ?_)
    · have h := ifp h c2
      refine lv_iinc (v := y3 + 1) (lv' := [(3, .int (y3 + 1)), (4, .int s0), (0, .ref a_o), (1, .int y1), (2, .int y2)]) hx hb dX6_bridgesServe_57 hl (k := 4) rfl rfl (by decide) rfl (fun ls hl => ?_)
      refine lv_goto (tgt := 2) hx hb dX6_bridgesServe_60 (by decide) ?_
      exact hk2 y1 y2 (y3 + 1) h ls (lv_sub (l' := [(0, .ref a_o), (1, .int y1), (2, .int y2), (3, .int (y3 + 1))]) hl [2, 3, 4, 0] rfl)
    · have h := ifn h c2
      refine lv_iload hx hb dX6_bridgesServe_50 (lv_at hl 0 rfl) ?_
      refine lv_if_ne (tgt := 57) hx hb dX6_bridgesServe_52 (by decide) (fun c3 => ?_) (fun c3 => ?_)
      · have h := ifn h c3
        refine lv_iinc (v := y3 + 1) (lv' := [(3, .int (y3 + 1)), (4, .int s0), (0, .ref a_o), (1, .int y1), (2, .int y2)]) hx hb dX6_bridgesServe_57 hl (k := 4) rfl rfl (by decide) rfl (fun ls hl => ?_)
        refine lv_goto (tgt := 2) hx hb dX6_bridgesServe_60 (by decide) ?_
        exact hk2 y1 y2 (y3 + 1) h ls (lv_sub (l' := [(0, .ref a_o), (1, .int y1), (2, .int y2), (3, .int (y3 + 1))]) hl [2, 3, 4, 0] rfl)
      · have h := ifp h c3
        refine lv_iconst (v := 0) hx hb dX6_bridgesServe_55 (by decide) ?_
        exact kRetZ hx hb hr hlk rfl (Option.some.inj h) dX6_bridgesServe_56
  have F2 : ∀ (n : Nat) (y1 : Int32) (y2 : Int32) (y3 : Int32), lX6_bridgesServe_2 t_supertypes k_count k_staticType n y1 y2 y3 = some r → ∀ ls : Array Slot, lv_has ls 5 [(0, .ref a_o), (1, .int y1), (2, .int y2), (3, .int y3)] → WP p l e rmX6_bridgesServe s m av below meth c r 2 ls [] := by
    intro n
    induction n with
    | zero => intro y1 y2 y3 h; exact no_some h
    | succ n ih =>
      intro y1 y2 y3 h ls hl
      rw [lX6_bridgesServe_2_s] at h
      refine lv_iload_n hx hb dX6_bridgesServe_2 rfl (lv_at hl 3 rfl) ?_
      refine lv_aload_n hx hb dX6_bridgesServe_3 rfl (lv_at hl 0 rfl) ?_
      refine va_get (D := D) (ci := 6) (v := .ref a_k) (C := RX6) (T := TX6) (N := 3) hx hb hts hinX6 hown hKK.1 hP 0 rfl rfl 2 (by decide) lk28 (fun _ h9 => h9) rfl dX6_bridgesServe_4 ?_
      refine va_get (D := D) (ci := 0) (v := .int k_count) (C := RX0) (T := TX0) (N := 13) hx hb hts hinX0 hown hKK.1 hP 9 rfl rfl 0 (by decide) lk125 (fun _ h9 => h9) rfl dX6_bridgesServe_7 ?_
      refine lv_icmp_ge (tgt := 63) hx hb dX6_bridgesServe_10 (by decide) (fun c1 => ?_) (fun c1 => ?_)
      · have h := ifp h c1
        refine lv_iconst (v := 1) hx hb dX6_bridgesServe_63 (by decide) ?_
        exact kRetZ hx hb hr hlk rfl (Option.some.inj h) dX6_bridgesServe_64
      · have h := ifn h c1
        refine lv_aload_n hx hb dX6_bridgesServe_13 rfl (lv_at hl 0 rfl) ?_
        refine va_get (D := D) (ci := 6) (v := .ref a_t) (C := RX6) (T := TX6) (N := 3) hx hb hts hinX6 hown hKK.1 hP 0 rfl rfl 0 (by decide) lk12 (fun _ h9 => h9) rfl dX6_bridgesServe_14 ?_
        refine va_get (D := D) (ci := 7) (v := .ref a_t_supertypes) (C := RX7) (T := TX7) (N := 3) hx hb hts hinX7 hown hKK.1 hP 1 rfl rfl 2 (by decide) lk67 (fun _ h9 => h9) rfl dX6_bridgesServe_17 ?_
        refine lv_aload_n hx hb dX6_bridgesServe_20 rfl (lv_at hl 0 rfl) ?_
        refine va_get (D := D) (ci := 6) (v := .ref a_k) (C := RX6) (T := TX6) (N := 3) hx hb hts hinX6 hown hKK.1 hP 0 rfl rfl 2 (by decide) lk28 (fun _ h9 => h9) rfl dX6_bridgesServe_21 ?_
        refine va_get (D := D) (ci := 0) (v := .ref a_k_staticType) (C := RX0) (T := TX0) (N := 13) hx hb hts hinX0 hown hKK.1 hP 9 rfl rfl 2 (by decide) lk126 (fun _ h9 => h9) rfl dX6_bridgesServe_24 ?_
        refine lv_iload_n hx hb dX6_bridgesServe_27 rfl (lv_at hl 3 rfl) ?_
        obtain ⟨v2, iv2, ev2, h⟩ := rd_some h
        refine kAld hx hb hKK hP 10 rfl iv2 ev2 dX6_bridgesServe_28 ?_
        obtain ⟨v3, iv3, ev3, h⟩ := rd_some h
        refine kAld hx hb hKK hP 2 rfl iv3 ev3 dX6_bridgesServe_29 ?_
        refine lv_iload_n hx hb dX6_bridgesServe_30 rfl (lv_at hl 1 rfl) ?_
        refine lv_iand hx hb dX6_bridgesServe_31 ?_
        refine lv_if_eq (tgt := 39) hx hb dX6_bridgesServe_32 (by decide) (fun c4 => ?_) (fun c4 => ?_)
        · have h := ifp h c4
          refine lv_iconst (v := 0) hx hb dX6_bridgesServe_39 (by decide) ?_
          exact F40 (fun u1 u2 u3 => lX6_bridgesServe_2 t_supertypes k_count k_staticType n u1 u2 u3) (fun u1 u2 u3 h ls hl => ih u1 u2 u3 h ls hl) y1 y2 y3 0 h ls (lv_sub (l' := [(0, .ref a_o), (1, .int y1), (2, .int y2), (3, .int y3)]) hl [0, 1, 2, 3] rfl)
        · have h := ifn h c4
          refine lv_iconst (v := 1) hx hb dX6_bridgesServe_35 (by decide) ?_
          refine lv_goto (tgt := 40) hx hb dX6_bridgesServe_36 (by decide) ?_
          exact F40 (fun u1 u2 u3 => lX6_bridgesServe_2 t_supertypes k_count k_staticType n u1 u2 u3) (fun u1 u2 u3 h ls hl => ih u1 u2 u3 h ls hl) y1 y2 y3 1 h ls (lv_sub (l' := [(0, .ref a_o), (1, .int y1), (2, .int y2), (3, .int y3)]) hl [0, 1, 2, 3] rfl)
  unfold fX6_bridgesServe at h
  refine lv_iconst (v := 0) hx hb dX6_bridgesServe_0 (by decide) ?_
  refine lv_istore_n (lv' := [(3, .int 0), (0, .ref a_o), (1, .int x1), (2, .int x2)]) hx hb dX6_bridgesServe_1 rfl hl (by decide) rfl (fun ls hl => ?_)
  exact F2 5000 x1 x2 0 h ls (lv_sub (l' := [(0, .ref a_o), (1, .int x1), (2, .int x2), (3, .int 0)]) hl [1, 2, 3, 0] rfl)
set_option maxHeartbeats 8000000 in
set_option maxRecDepth 100000 in
theorem qX6_bridgesFor (l : Launch) (D : va_G) (cI cM : ClassId) (a_o a_t a_t_supertypes a_m a_m_type a_m_name a_m_arity a_m_keys a_m_defaults a_k a_k_staticType a_k_dynamicType a_k_target a_k_argumentCounts a_k_temporaryCounts a_k_keys a_k_kinds a_k_values a_k_temporaryKinds a_k_newKinds a_k_newValues : Nat) (t_count : Int32) (t_interfaceSet : Int32) (t_supertypes : Nat → Int32) (m_count : Int32) (m_type : Nat → Int32) (m_name : Nat → Int32) (m_arity : Nat → Int32) (m_keys : Nat → Int32) (m_defaults : Nat → Int32) (k_count : Int32) (k_frozenSet : Int32) (k_staticType : Nat → Int32) (k_dynamicType : Nat → Int32) (k_target : Nat → Int32) (k_argumentCounts : Nat → Int32) (k_temporaryCounts : Nat → Int32) (k_keys : Nat → Int32) (k_kinds : Nat → Int32) (k_values : Nat → Int32) (k_temporaryKinds : Nat → Int32) (k_newKinds : Nat → Int32) (k_newValues : Nat → Int32) (x1 : Int32) (r : Int32) (h : fX6_bridgesFor t_supertypes m_count m_type k_count k_frozenSet k_staticType k_target x1 = some r) : PM l yX6_bridgesFor wsX6_bridgesFor rmX6_bridgesFor D cI cM [.ref a_o, .int x1] (W_o_t_m_k cI cM a_o a_t a_t_supertypes a_m a_m_type a_m_name a_m_arity a_m_keys a_m_defaults a_k a_k_staticType a_k_dynamicType a_k_target a_k_argumentCounts a_k_temporaryCounts a_k_keys a_k_kinds a_k_values a_k_temporaryKinds a_k_newKinds a_k_newValues t_count t_interfaceSet t_supertypes m_count m_type m_name m_arity m_keys m_defaults k_count k_frozenSet k_staticType k_dynamicType k_target k_argumentCounts k_temporaryCounts k_keys k_kinds k_values k_temporaryKinds k_newKinds k_newValues) r := by
  refine PM.of (cc := cX6_bridgesFor) (maxL := 8) (ret := (some .int)) (by decide) rfl (Nat.le_of_ble_eq_true rfl) ?_
  intro p e s m below meth c ls hx hb hr hml hown hts hlk hP hKK hl
  have hown : s.vm.findClass RX6 = some m.cls := hown
  have hl : lv_has ls 8 [(0, .ref a_o), (1, .int x1)] := hl
  generalize hav : ([.ref a_o, .int x1] : List Value) = av at hts ⊢
  have SS : CallFix p m c cX6_bridgesFor 8 s av.toArray wsX6_bridgesFor RX6 := ⟨hx, hb, hml, hown, hts⟩
  have hinX0 : ∀ w ∈ u_ws RX0 TX0 13, w ∈ wsX6_bridgesFor := by decide +kernel
  have hinX6 : ∀ w ∈ u_ws RX6 TX6 3, w ∈ wsX6_bridgesFor := by decide +kernel
  have lk21 := hts (.fieldLink RX6 21 "SignatureChanger$Model" "methods" "LSignatureChanger$Methods;") (List.mem_of_getElem? (i := 3) rfl)
  have lk28 := hts (.fieldLink RX6 28 "SignatureChanger$Model" "calls" "LSignatureChanger$Calls;") (List.mem_of_getElem? (i := 1) rfl)
  have lk114 := hts (.fieldLink RX6 114 "SignatureChanger$Calls" "frozenSet" "I") (List.mem_of_getElem? (i := 2) rfl)
  have cw49 : va_CN rmX6_bridgesFor s av.toArray RX6 49 yX8_bit RX8 cX8_bit 1 (some .int) wsX8_bit rmX8_bit 0 0 1 ∧ (Cond.static yX8_bit).before av.toArray s = true ∧ True := ⟨va_cnB 1 hts gX6_bridgesFor_X8_bit_n49 rfl rfl rfl (hKK.2.at 16 rfl) (hts (.initialized RX8) (List.mem_of_getElem? (i := 12) rfl)) (by decide +kernel) ⟨Nat.le_of_ble_eq_true rfl, Nat.le_of_ble_eq_true rfl⟩, hts (.static yX8_bit) (List.mem_of_getElem? (i := 14) rfl), trivial⟩
  have cw57 : CallW rmX6_bridgesFor s av.toArray RX6 RX5 57 yX5_typesOf cX5_typesOf 4 (some .int) wsX5_typesOf rmX5_typesOf 0 0 1 := cwV 1 hts gX6_bridgesFor_X5_typesOf rfl rfl rfl (by decide +kernel) ⟨Nat.le_of_ble_eq_true rfl, Nat.le_of_ble_eq_true rfl⟩
  have cw111 : CallW rmX6_bridgesFor s av.toArray RX6 RX0 111 yX0_withTargetIn cX0_withTargetIn 4 (some .int) wsX0_withTargetIn rmX0_withTargetIn 0 0 1 := cwV 1 hts gX6_bridgesFor_X0_withTargetIn rfl rfl rfl (by decide +kernel) ⟨Nat.le_of_ble_eq_true rfl, Nat.le_of_ble_eq_true rfl⟩
  have cw117 : CallB rmX6_bridgesFor s av.toArray RX6 117 yJ6_bitCount_0f7a4 cJ6_bitCount_0f7a4 1 (some .int) wsJ6_bitCount_0f7a4 rmJ6_bitCount_0f7a4 0 0 1 ∧ (Cond.static yJ6_bitCount_0f7a4).before av.toArray s = true := va_cwS 1 hts gX6_bridgesFor_J6_bitCount_0f7a4 rfl rfl rfl (by decide +kernel) ⟨Nat.le_of_ble_eq_true rfl, Nat.le_of_ble_eq_true rfl⟩
  have cw122 : CallW rmX6_bridgesFor s av.toArray RX6 RX6 122 yX6_bridgesServe cX6_bridgesServe 5 (some .boolean) wsX6_bridgesServe rmX6_bridgesServe 0 0 2 := cwV 2 hts gX6_bridgesFor_X6_bridgesServe rfl rfl rfl (by decide +kernel) ⟨Nat.le_of_ble_eq_true rfl, Nat.le_of_ble_eq_true rfl⟩
  have F76 : ∀ (k32 : Int32 → Int32 → Int32 → Int32 → Option (Int32)) (hk32 : ∀ (u2 : Int32) (u3 : Int32) (u4 : Int32) (u5 : Int32), k32 u2 u3 u4 u5 = some r → ∀ ls : Array Slot, lv_has ls 8 [(0, .ref a_o), (2, .int u2), (3, .int u3), (4, .int u4), (5, .int u5)] → WP p l e rmX6_bridgesFor s m av below meth c r 32 ls []), ∀ (y2 : Int32) (y3 : Int32) (y4 : Int32) (y5 : Int32) (y6 : Int32) (s0 : Int32), jX6_bridgesFor_76 t_supertypes m_count m_type k_count k_frozenSet k_staticType k_target k32 y2 y3 y4 y5 y6 s0 = some r → ∀ ls : Array Slot, lv_has ls 8 [(0, .ref a_o), (2, .int y2), (3, .int y3), (4, .int y4), (5, .int y5), (6, .int y6)] → WP p l e rmX6_bridgesFor s m av below meth c r 76 ls [.int s0] := by
    intro k32 hk32
    intro y2 y3 y4 y5 y6 s0 h ls hl
    unfold jX6_bridgesFor_76 at h
    refine lv_istore (lv' := [(7, .int s0), (0, .ref a_o), (2, .int y2), (3, .int y3), (4, .int y4), (5, .int y5), (6, .int y6)]) hx hb dX6_bridgesFor_76 hl (by decide) rfl (fun ls hl => ?_)
    refine lv_iload hx hb dX6_bridgesFor_78 (lv_at hl 6 rfl) ?_
    refine lv_if_eq (tgt := 102) hx hb dX6_bridgesFor_80 (by decide) (fun c1 => ?_) (fun c1 => ?_)
    · have h := ifp h c1
      refine lv_iinc (v := y5 + 1) (lv' := [(5, .int (y5 + 1)), (7, .int s0), (0, .ref a_o), (2, .int y2), (3, .int y3), (4, .int y4), (6, .int y6)]) hx hb dX6_bridgesFor_102 hl (k := 5) rfl rfl (by decide) rfl (fun ls hl => ?_)
      refine lv_goto (tgt := 32) hx hb dX6_bridgesFor_105 (by decide) ?_
      exact hk32 y2 y3 y4 (y5 + 1) h ls (lv_sub (l' := [(0, .ref a_o), (2, .int y2), (3, .int y3), (4, .int y4), (5, .int (y5 + 1))]) hl [2, 3, 4, 5, 0] rfl)
    · have h := ifn h c1
      refine lv_iload hx hb dX6_bridgesFor_83 (lv_at hl 0 rfl) ?_
      refine lv_if_eq (tgt := 102) hx hb dX6_bridgesFor_85 (by decide) (fun c2 => ?_) (fun c2 => ?_)
      · have h := ifp h c2
        refine lv_iinc (v := y5 + 1) (lv' := [(5, .int (y5 + 1)), (7, .int s0), (0, .ref a_o), (2, .int y2), (3, .int y3), (4, .int y4), (6, .int y6)]) hx hb dX6_bridgesFor_102 hl (k := 5) rfl rfl (by decide) rfl (fun ls hl => ?_)
        refine lv_goto (tgt := 32) hx hb dX6_bridgesFor_105 (by decide) ?_
        exact hk32 y2 y3 y4 (y5 + 1) h ls (lv_sub (l' := [(0, .ref a_o), (2, .int y2), (3, .int y3), (4, .int y4), (5, .int (y5 + 1))]) hl [2, 3, 4, 5, 0] rfl)
      · have h := ifn h c2
        refine lv_aload_n hx hb dX6_bridgesFor_88 rfl (lv_at hl 1 rfl) ?_
        refine lv_iload hx hb dX6_bridgesFor_89 (lv_at hl 5 rfl) ?_
        refine lv_iload_n hx hb dX6_bridgesFor_91 rfl (lv_at hl 2 rfl) ?_
        obtain ⟨v3, ev3, h⟩ := bn_some h
        have hs4 : va_P D vwCl (W_o_t_m_k cI cM a_o a_t a_t_supertypes a_m a_m_type a_m_name a_m_arity a_m_keys a_m_defaults a_k a_k_staticType a_k_dynamicType a_k_target a_k_argumentCounts a_k_temporaryCounts a_k_keys a_k_kinds a_k_values a_k_temporaryKinds a_k_newKinds a_k_newValues t_count t_interfaceSet t_supertypes m_count m_type m_name m_arity m_keys m_defaults k_count k_frozenSet k_staticType k_dynamicType k_target k_argumentCounts k_temporaryCounts k_keys k_kinds k_values k_temporaryKinds k_newKinds k_newValues) _ := blkP (Bs := [B_o cI cM a_o a_t a_m a_k , B_t cI cM a_t a_t_supertypes t_count t_interfaceSet t_supertypes, B_m cI cM a_m a_m_type a_m_name a_m_arity a_m_keys a_m_defaults m_count m_type m_name m_arity m_keys m_defaults, B_k cI cM a_k a_k_staticType a_k_dynamicType a_k_target a_k_argumentCounts a_k_temporaryCounts a_k_keys a_k_kinds a_k_values a_k_temporaryKinds a_k_newKinds a_k_newValues k_count k_frozenSet k_staticType k_dynamicType k_target k_argumentCounts k_temporaryCounts k_keys k_kinds k_values k_temporaryKinds k_newKinds k_newValues]) hP [0, 1, 2, 3] (C0 := [B_o cI cM a_o a_t a_m a_k , B_t cI cM a_t a_t_supertypes t_count t_interfaceSet t_supertypes, B_m cI cM a_m a_m_type a_m_name a_m_arity a_m_keys a_m_defaults m_count m_type m_name m_arity m_keys m_defaults, B_k cI cM a_k a_k_staticType a_k_dynamicType a_k_target a_k_argumentCounts a_k_temporaryCounts a_k_keys a_k_kinds a_k_values a_k_temporaryKinds a_k_newKinds a_k_newValues k_count k_frozenSet k_staticType k_dynamicType k_target k_argumentCounts k_temporaryCounts k_keys k_kinds k_values k_temporaryKinds k_newKinds k_newValues]) rfl rfl
        refine kV (As := [.int y5, .int y2]) (rest := []) SS hKK (qX6_bridgesServe l D cI cM a_o a_t a_t_supertypes a_m a_m_type a_m_name a_m_arity a_m_keys a_m_defaults a_k a_k_staticType a_k_dynamicType a_k_target a_k_argumentCounts a_k_temporaryCounts a_k_keys a_k_kinds a_k_values a_k_temporaryKinds a_k_newKinds a_k_newValues t_count t_interfaceSet t_supertypes m_count m_type m_name m_arity m_keys m_defaults k_count k_frozenSet k_staticType k_dynamicType k_target k_argumentCounts k_temporaryCounts k_keys k_kinds k_values k_temporaryKinds k_newKinds k_newValues y5 y2 v3 ev3) cw122 hs4 0 6 rfl rfl rfl hl.1 rfl (Nat.le_of_ble_eq_true rfl) dX6_bridgesFor_92 ⟨Nat.zero_le _, Nat.zero_le _⟩ ?_
        refine lv_if_eq (tgt := 102) hx hb dX6_bridgesFor_95 (by decide) (fun c5 => ?_) (fun c5 => ?_)
        · have h := ifp h c5
          refine lv_iinc (v := y5 + 1) (lv' := [(5, .int (y5 + 1)), (7, .int s0), (0, .ref a_o), (2, .int y2), (3, .int y3), (4, .int y4), (6, .int y6)]) hx hb dX6_bridgesFor_102 hl (k := 5) rfl rfl (by decide) rfl (fun ls hl => ?_)
          refine lv_goto (tgt := 32) hx hb dX6_bridgesFor_105 (by decide) ?_
          exact hk32 y2 y3 y4 (y5 + 1) h ls (lv_sub (l' := [(0, .ref a_o), (2, .int y2), (3, .int y3), (4, .int y4), (5, .int (y5 + 1))]) hl [2, 3, 4, 5, 0] rfl)
        · have h := ifn h c5
          refine lv_iload hx hb dX6_bridgesFor_98 (lv_at hl 5 rfl) ?_
          refine lv_istore (lv' := [(4, .int y5), (7, .int s0), (0, .ref a_o), (2, .int y2), (3, .int y3), (5, .int y5), (6, .int y6)]) hx hb dX6_bridgesFor_100 hl (by decide) rfl (fun ls hl => ?_)
          refine lv_iinc (v := y5 + 1) (lv' := [(5, .int (y5 + 1)), (4, .int y5), (7, .int s0), (0, .ref a_o), (2, .int y2), (3, .int y3), (6, .int y6)]) hx hb dX6_bridgesFor_102 hl (k := 5) rfl rfl (by decide) rfl (fun ls hl => ?_)
          refine lv_goto (tgt := 32) hx hb dX6_bridgesFor_105 (by decide) ?_
          exact hk32 y2 y3 y5 (y5 + 1) h ls (lv_sub (l' := [(0, .ref a_o), (2, .int y2), (3, .int y3), (4, .int y5), (5, .int (y5 + 1))]) hl [3, 4, 5, 1, 0] rfl)
  have F56 : ∀ (k32 : Int32 → Int32 → Int32 → Int32 → Option (Int32)) (hk32 : ∀ (u2 : Int32) (u3 : Int32) (u4 : Int32) (u5 : Int32), k32 u2 u3 u4 u5 = some r → ∀ ls : Array Slot, lv_has ls 8 [(0, .ref a_o), (2, .int u2), (3, .int u3), (4, .int u4), (5, .int u5)] → WP p l e rmX6_bridgesFor s m av below meth c r 32 ls []), ∀ (y2 : Int32) (y3 : Int32) (y4 : Int32) (y5 : Int32) (s0 : Int32), jX6_bridgesFor_56 t_supertypes m_count m_type k_count k_frozenSet k_staticType k_target k32 y2 y3 y4 y5 s0 = some r → ∀ ls : Array Slot, lv_has ls 8 [(0, .ref a_o), (2, .int y2), (3, .int y3), (4, .int y4), (5, .int y5)] → WP p l e rmX6_bridgesFor s m av below meth c r 56 ls [.int s0] := by
    intro k32 hk32
    intro y2 y3 y4 y5 s0 h ls hl
    unfold jX6_bridgesFor_56 at h
    refine lv_istore (lv' := [(6, .int s0), (0, .ref a_o), (2, .int y2), (3, .int y3), (4, .int y4), (5, .int y5)]) hx hb dX6_bridgesFor_56 hl (by decide) rfl (fun ls hl => ?_)
    refine lv_iload hx hb dX6_bridgesFor_58 (lv_at hl 5 rfl) ?_
    obtain ⟨v1, ev1, h⟩ := bn_some h
    refine kS (As := [.int y5]) (rest := []) SS hKK (qJ6_bitCount_0f7a4 l D cI cM y5 v1 ev1) cw117 va_P_nil rfl hl.1 rfl (Nat.le_of_ble_eq_true rfl) dX6_bridgesFor_60 ⟨Nat.zero_le _, Nat.zero_le _⟩ ?_
    refine lv_iload hx hb dX6_bridgesFor_63 (lv_at hl 4 rfl) ?_
    obtain ⟨v2, ev2, h⟩ := bn_some h
    refine kS (As := [.int y4]) (rest := [.int v1]) SS hKK (qJ6_bitCount_0f7a4 l D cI cM y4 v2 ev2) cw117 va_P_nil rfl hl.1 rfl (Nat.le_of_ble_eq_true rfl) dX6_bridgesFor_65 ⟨Nat.zero_le _, Nat.zero_le _⟩ ?_
    refine lv_icmp_ge (tgt := 75) hx hb dX6_bridgesFor_68 (by decide) (fun c3 => ?_) (fun c3 => ?_)
    · have h := ifp h c3
      refine lv_iconst (v := 0) hx hb dX6_bridgesFor_75 (by decide) ?_
      exact F76 k32 hk32 y2 y3 y4 y5 s0 0 h ls (lv_sub (l' := [(0, .ref a_o), (2, .int y2), (3, .int y3), (4, .int y4), (5, .int y5), (6, .int s0)]) hl [1, 2, 3, 4, 5, 0] rfl)
    · have h := ifn h c3
      refine lv_iconst (v := 1) hx hb dX6_bridgesFor_71 (by decide) ?_
      refine lv_goto (tgt := 76) hx hb dX6_bridgesFor_72 (by decide) ?_
      exact F76 k32 hk32 y2 y3 y4 y5 s0 1 h ls (lv_sub (l' := [(0, .ref a_o), (2, .int y2), (3, .int y3), (4, .int y4), (5, .int y5), (6, .int s0)]) hl [1, 2, 3, 4, 5, 0] rfl)
  have F32 : ∀ (n : Nat) (y2 : Int32) (y3 : Int32) (y4 : Int32) (y5 : Int32), lX6_bridgesFor_32 t_supertypes m_count m_type k_count k_frozenSet k_staticType k_target n y2 y3 y4 y5 = some r → ∀ ls : Array Slot, lv_has ls 8 [(0, .ref a_o), (2, .int y2), (3, .int y3), (4, .int y4), (5, .int y5)] → WP p l e rmX6_bridgesFor s m av below meth c r 32 ls [] := by
    intro n
    induction n with
    | zero => intro y2 y3 y4 y5 h; exact no_some h
    | succ n ih =>
      intro y2 y3 y4 y5 h ls hl
      rw [lX6_bridgesFor_32_s] at h
      refine lv_iload hx hb dX6_bridgesFor_32 (lv_at hl 4 rfl) ?_
      refine lv_bipush (v := 8) hx hb dX6_bridgesFor_34 (by decide) ?_
      obtain ⟨v1, ev1, h⟩ := bn_some h
      refine kSN (As := [.int 8]) (rest := [.int y5]) SS hKK (qX8_bit l D cI cM 8 v1 ev1) cw49 va_P_nil rfl hl.1 rfl (Nat.le_of_ble_eq_true rfl) dX6_bridgesFor_36 ⟨Nat.zero_le _, Nat.zero_le _⟩ ?_
      refine lv_icmp_ge (tgt := 108) hx hb dX6_bridgesFor_39 (by decide) (fun c2 => ?_) (fun c2 => ?_)
      · have h := ifp h c2
        refine lv_iload hx hb dX6_bridgesFor_108 (lv_at hl 3 rfl) ?_
        exact kRet hx hb hr hlk (Option.some.inj h) dX6_bridgesFor_110
      · have h := ifn h c2
        refine lv_iload hx hb dX6_bridgesFor_42 (lv_at hl 4 rfl) ?_
        refine lv_iload_n hx hb dX6_bridgesFor_44 rfl (lv_at hl 2 rfl) ?_
        refine lv_iconst (v := (-1)) hx hb dX6_bridgesFor_45 (by decide) ?_
        refine lv_ixor hx hb dX6_bridgesFor_46 ?_
        refine lv_iand hx hb dX6_bridgesFor_47 ?_
        refine lv_if_ne (tgt := 55) hx hb dX6_bridgesFor_48 (by decide) (fun c3 => ?_) (fun c3 => ?_)
        · have h := ifn h c3
          refine lv_iconst (v := 0) hx hb dX6_bridgesFor_55 (by decide) ?_
          exact F56 (fun u2 u3 u4 u5 => lX6_bridgesFor_32 t_supertypes m_count m_type k_count k_frozenSet k_staticType k_target n u2 u3 u4 u5) (fun u2 u3 u4 u5 h ls hl => ih u2 u3 u4 u5 h ls hl) y2 y3 y4 y5 0 h ls (lv_sub (l' := [(0, .ref a_o), (2, .int y2), (3, .int y3), (4, .int y4), (5, .int y5)]) hl [0, 1, 2, 3, 4] rfl)
        · have h := ifp h c3
          refine lv_iconst (v := 1) hx hb dX6_bridgesFor_51 (by decide) ?_
          refine lv_goto (tgt := 56) hx hb dX6_bridgesFor_52 (by decide) ?_
          exact F56 (fun u2 u3 u4 u5 => lX6_bridgesFor_32 t_supertypes m_count m_type k_count k_frozenSet k_staticType k_target n u2 u3 u4 u5) (fun u2 u3 u4 u5 h ls hl => ih u2 u3 u4 u5 h ls hl) y2 y3 y4 y5 1 h ls (lv_sub (l' := [(0, .ref a_o), (2, .int y2), (3, .int y3), (4, .int y4), (5, .int y5)]) hl [0, 1, 2, 3, 4] rfl)
  unfold fX6_bridgesFor at h
  refine lv_aload_n hx hb dX6_bridgesFor_0 rfl (lv_at hl 0 rfl) ?_
  refine va_get (D := D) (ci := 6) (v := .ref a_k) (C := RX6) (T := TX6) (N := 3) hx hb hts hinX6 hown hKK.1 hP 0 rfl rfl 2 (by decide) lk28 (fun _ h9 => h9) rfl dX6_bridgesFor_1 ?_
  refine lv_iload_n hx hb dX6_bridgesFor_4 rfl (lv_at hl 1 rfl) ?_
  obtain ⟨v1, ev1, h⟩ := bn_some h
  have hs2 : va_P D vwCl (W_k cI cM a_k a_k_staticType a_k_dynamicType a_k_target a_k_argumentCounts a_k_temporaryCounts a_k_keys a_k_kinds a_k_values a_k_temporaryKinds a_k_newKinds a_k_newValues k_count k_frozenSet k_staticType k_dynamicType k_target k_argumentCounts k_temporaryCounts k_keys k_kinds k_values k_temporaryKinds k_newKinds k_newValues) _ := blkP (Bs := [B_o cI cM a_o a_t a_m a_k , B_t cI cM a_t a_t_supertypes t_count t_interfaceSet t_supertypes, B_m cI cM a_m a_m_type a_m_name a_m_arity a_m_keys a_m_defaults m_count m_type m_name m_arity m_keys m_defaults, B_k cI cM a_k a_k_staticType a_k_dynamicType a_k_target a_k_argumentCounts a_k_temporaryCounts a_k_keys a_k_kinds a_k_values a_k_temporaryKinds a_k_newKinds a_k_newValues k_count k_frozenSet k_staticType k_dynamicType k_target k_argumentCounts k_temporaryCounts k_keys k_kinds k_values k_temporaryKinds k_newKinds k_newValues]) hP [3] (C0 := [B_k cI cM a_k a_k_staticType a_k_dynamicType a_k_target a_k_argumentCounts a_k_temporaryCounts a_k_keys a_k_kinds a_k_values a_k_temporaryKinds a_k_newKinds a_k_newValues k_count k_frozenSet k_staticType k_dynamicType k_target k_argumentCounts k_temporaryCounts k_keys k_kinds k_values k_temporaryKinds k_newKinds k_newValues]) rfl rfl
  refine kV (As := [.int x1]) (rest := []) SS hKK (qX0_withTargetIn l D cI cM a_k a_k_staticType a_k_dynamicType a_k_target a_k_argumentCounts a_k_temporaryCounts a_k_keys a_k_kinds a_k_values a_k_temporaryKinds a_k_newKinds a_k_newValues k_count k_frozenSet k_staticType k_dynamicType k_target k_argumentCounts k_temporaryCounts k_keys k_kinds k_values k_temporaryKinds k_newKinds k_newValues x1 v1 ev1) cw111 hs2 0 0 rfl rfl rfl hl.1 rfl (Nat.le_of_ble_eq_true rfl) dX6_bridgesFor_5 ⟨Nat.zero_le _, Nat.zero_le _⟩ ?_
  refine lv_aload_n hx hb dX6_bridgesFor_8 rfl (lv_at hl 0 rfl) ?_
  refine va_get (D := D) (ci := 6) (v := .ref a_k) (C := RX6) (T := TX6) (N := 3) hx hb hts hinX6 hown hKK.1 hP 0 rfl rfl 2 (by decide) lk28 (fun _ h9 => h9) rfl dX6_bridgesFor_9 ?_
  refine va_get (D := D) (ci := 0) (v := .int k_frozenSet) (C := RX0) (T := TX0) (N := 13) hx hb hts hinX0 hown hKK.1 hP 9 rfl rfl 1 (by decide) lk114 (fun _ h9 => h9) rfl dX6_bridgesFor_12 ?_
  refine lv_iand hx hb dX6_bridgesFor_15 ?_
  refine lv_istore_n (lv' := [(2, .int (v1 &&& k_frozenSet)), (0, .ref a_o), (1, .int x1)]) hx hb dX6_bridgesFor_16 rfl hl (by decide) rfl (fun ls hl => ?_)
  refine lv_aload_n hx hb dX6_bridgesFor_17 rfl (lv_at hl 1 rfl) ?_
  refine va_get (D := D) (ci := 6) (v := .ref a_m) (C := RX6) (T := TX6) (N := 3) hx hb hts hinX6 hown hKK.1 hP 0 rfl rfl 1 (by decide) lk21 (fun _ h9 => h9) rfl dX6_bridgesFor_18 ?_
  refine lv_iload_n hx hb dX6_bridgesFor_21 rfl (lv_at hl 2 rfl) ?_
  obtain ⟨v3, ev3, h⟩ := bn_some h
  have hs4 : va_P D vwCl (W_m cI cM a_m a_m_type a_m_name a_m_arity a_m_keys a_m_defaults m_count m_type m_name m_arity m_keys m_defaults) _ := blkP (Bs := [B_o cI cM a_o a_t a_m a_k , B_t cI cM a_t a_t_supertypes t_count t_interfaceSet t_supertypes, B_m cI cM a_m a_m_type a_m_name a_m_arity a_m_keys a_m_defaults m_count m_type m_name m_arity m_keys m_defaults, B_k cI cM a_k a_k_staticType a_k_dynamicType a_k_target a_k_argumentCounts a_k_temporaryCounts a_k_keys a_k_kinds a_k_values a_k_temporaryKinds a_k_newKinds a_k_newValues k_count k_frozenSet k_staticType k_dynamicType k_target k_argumentCounts k_temporaryCounts k_keys k_kinds k_values k_temporaryKinds k_newKinds k_newValues]) hP [2] (C0 := [B_m cI cM a_m a_m_type a_m_name a_m_arity a_m_keys a_m_defaults m_count m_type m_name m_arity m_keys m_defaults]) rfl rfl
  refine kV (As := [.int x1]) (rest := []) SS hKK (qX5_typesOf l D cI cM a_m a_m_type a_m_name a_m_arity a_m_keys a_m_defaults m_count m_type m_name m_arity m_keys m_defaults x1 v3 ev3) cw57 hs4 0 5 rfl rfl rfl hl.1 rfl (Nat.le_of_ble_eq_true rfl) dX6_bridgesFor_22 ⟨Nat.zero_le _, Nat.zero_le _⟩ ?_
  refine lv_istore_n (lv' := [(3, .int v3), (2, .int (v1 &&& k_frozenSet)), (0, .ref a_o), (1, .int x1)]) hx hb dX6_bridgesFor_25 rfl hl (by decide) rfl (fun ls hl => ?_)
  refine lv_iload_n hx hb dX6_bridgesFor_26 rfl (lv_at hl 0 rfl) ?_
  refine lv_istore (lv' := [(4, .int v3), (3, .int v3), (2, .int (v1 &&& k_frozenSet)), (0, .ref a_o), (1, .int x1)]) hx hb dX6_bridgesFor_27 hl (by decide) rfl (fun ls hl => ?_)
  refine lv_iconst (v := 0) hx hb dX6_bridgesFor_29 (by decide) ?_
  refine lv_istore (lv' := [(5, .int 0), (4, .int v3), (3, .int v3), (2, .int (v1 &&& k_frozenSet)), (0, .ref a_o), (1, .int x1)]) hx hb dX6_bridgesFor_30 hl (by decide) rfl (fun ls hl => ?_)
  exact F32 5000 (v1 &&& k_frozenSet) v3 v3 0 h ls (lv_sub (l' := [(0, .ref a_o), (2, .int (v1 &&& k_frozenSet)), (3, .int v3), (4, .int v3), (5, .int 0)]) hl [4, 3, 2, 1, 0] rfl)
set_option maxHeartbeats 8000000 in
set_option maxRecDepth 100000 in
theorem qX7_exists (l : Launch) (D : va_G) (cI cM : ClassId) (a_t a_t_supertypes : Nat) (t_count : Int32) (t_interfaceSet : Int32) (t_supertypes : Nat → Int32) (x1 : Int32) (r : Int32) (h : fX7_exists t_count x1 = some r) : PM l yX7_exists wsX7_exists rmX7_exists D cI cM [.ref a_t, .int x1] (W_t cI cM a_t a_t_supertypes t_count t_interfaceSet t_supertypes) r := by
  refine PM.of (cc := cX7_exists) (maxL := 2) (ret := (some .boolean)) (by decide) rfl (Nat.le_of_ble_eq_true rfl) ?_
  intro p e s m below meth c ls hx hb hr hml hown hts hlk hP hKK hl
  have hown : s.vm.findClass RX7 = some m.cls := hown
  have hl : lv_has ls 2 [(0, .ref a_t), (1, .int x1)] := hl
  generalize hav : ([.ref a_t, .int x1] : List Value) = av at hts ⊢
  have SS : CallFix p m c cX7_exists 2 s av.toArray wsX7_exists RX7 := ⟨hx, hb, hml, hown, hts⟩
  have hinX7 : ∀ w ∈ u_ws RX7 TX7 3, w ∈ wsX7_exists := by decide +kernel
  have lk15 := hts (.fieldLink RX7 15 "SignatureChanger$Types" "count" "I") (List.mem_of_getElem? (i := 1) rfl)
  unfold fX7_exists at h
  refine lv_iload_n hx hb dX7_exists_0 rfl (lv_at hl 1 rfl) ?_
  refine lv_if_lt (tgt := 16) hx hb dX7_exists_1 (by decide) (fun c1 => ?_) (fun c1 => ?_)
  · have h := ifp h c1
    refine lv_iconst (v := 0) hx hb dX7_exists_16 (by decide) ?_
    exact kRetZ hx hb hr hlk rfl (Option.some.inj h) dX7_exists_17
  · have h := ifn h c1
    refine lv_iload_n hx hb dX7_exists_4 rfl (lv_at hl 1 rfl) ?_
    refine lv_aload_n hx hb dX7_exists_5 rfl (lv_at hl 0 rfl) ?_
    refine va_get (D := D) (ci := 7) (v := .int t_count) (C := RX7) (T := TX7) (N := 3) hx hb hts hinX7 hown hKK.1 hP 0 rfl rfl 0 (by decide) lk15 (fun _ h9 => h9) rfl dX7_exists_6 ?_
    refine lv_icmp_ge (tgt := 16) hx hb dX7_exists_9 (by decide) (fun c2 => ?_) (fun c2 => ?_)
    · have h := ifp h c2
      refine lv_iconst (v := 0) hx hb dX7_exists_16 (by decide) ?_
      exact kRetZ hx hb hr hlk rfl (Option.some.inj h) dX7_exists_17
    · have h := ifn h c2
      refine lv_iconst (v := 1) hx hb dX7_exists_12 (by decide) ?_
      refine lv_goto (tgt := 17) hx hb dX7_exists_13 (by decide) ?_
      exact kRetZ hx hb hr hlk rfl (Option.some.inj h) dX7_exists_17
set_option maxHeartbeats 8000000 in
set_option maxRecDepth 100000 in
theorem qX7_isClass (l : Launch) (D : va_G) (cI cM : ClassId) (a_t a_t_supertypes : Nat) (t_count : Int32) (t_interfaceSet : Int32) (t_supertypes : Nat → Int32) (x1 : Int32) (r : Int32) (h : fX7_isClass t_count t_interfaceSet x1 = some r) : PM l yX7_isClass wsX7_isClass rmX7_isClass D cI cM [.ref a_t, .int x1] (W_t cI cM a_t a_t_supertypes t_count t_interfaceSet t_supertypes) r := by
  refine PM.of (cc := cX7_isClass) (maxL := 2) (ret := (some .boolean)) (by decide) rfl (Nat.le_of_ble_eq_true rfl) ?_
  intro p e s m below meth c ls hx hb hr hml hown hts hlk hP hKK hl
  have hown : s.vm.findClass RX7 = some m.cls := hown
  have hl : lv_has ls 2 [(0, .ref a_t), (1, .int x1)] := hl
  generalize hav : ([.ref a_t, .int x1] : List Value) = av at hts ⊢
  have SS : CallFix p m c cX7_isClass 2 s av.toArray wsX7_isClass RX7 := ⟨hx, hb, hml, hown, hts⟩
  have hinX7 : ∀ w ∈ u_ws RX7 TX7 3, w ∈ wsX7_isClass := by decide +kernel
  have lk23 := hts (.fieldLink RX7 23 "SignatureChanger$Types" "interfaceSet" "I") (List.mem_of_getElem? (i := 1) rfl)
  have cw19 : CallW rmX7_isClass s av.toArray RX7 RX7 19 yX7_exists cX7_exists 2 (some .boolean) wsX7_exists rmX7_exists 0 0 1 := cwV 1 hts gX7_isClass_X7_exists rfl rfl rfl (by decide +kernel) ⟨Nat.le_of_ble_eq_true rfl, Nat.le_of_ble_eq_true rfl⟩
  have cw26 : va_CN rmX7_isClass s av.toArray RX7 26 yX8_contains RX8 cX8_contains 2 (some .boolean) wsX8_contains rmX8_contains 0 0 2 ∧ (Cond.static yX8_contains).before av.toArray s = true ∧ True := ⟨va_cnB 2 hts gX7_isClass_X8_contains_n26 rfl rfl rfl (hKK.2.at 8 rfl) (hts (.initialized RX8) (List.mem_of_getElem? (i := 9) rfl)) (by decide +kernel) ⟨Nat.le_of_ble_eq_true rfl, Nat.le_of_ble_eq_true rfl⟩, hts (.static yX8_contains) (List.mem_of_getElem? (i := 8) rfl), trivial⟩
  unfold fX7_isClass at h
  refine lv_aload_n hx hb dX7_isClass_0 rfl (lv_at hl 0 rfl) ?_
  refine lv_iload_n hx hb dX7_isClass_1 rfl (lv_at hl 1 rfl) ?_
  obtain ⟨v1, ev1, h⟩ := bn_some h
  have hs2 : va_P D vwCl (W_t cI cM a_t a_t_supertypes t_count t_interfaceSet t_supertypes) _ := hP.sub (ws' := W_t cI cM a_t a_t_supertypes t_count t_interfaceSet t_supertypes) [0, 1] rfl
  refine kV (As := [.int x1]) (rest := []) SS hKK (qX7_exists l D cI cM a_t a_t_supertypes t_count t_interfaceSet t_supertypes x1 v1 ev1) cw19 hs2 0 7 rfl rfl rfl hl.1 rfl (Nat.le_of_ble_eq_true rfl) dX7_isClass_2 ⟨Nat.zero_le _, Nat.zero_le _⟩ ?_
  refine lv_if_eq (tgt := 23) hx hb dX7_isClass_5 (by decide) (fun c3 => ?_) (fun c3 => ?_)
  · have h := ifp h c3
    refine lv_iconst (v := 0) hx hb dX7_isClass_23 (by decide) ?_
    exact kRetZ hx hb hr hlk rfl (Option.some.inj h) dX7_isClass_24
  · have h := ifn h c3
    refine lv_aload_n hx hb dX7_isClass_8 rfl (lv_at hl 0 rfl) ?_
    refine va_get (D := D) (ci := 7) (v := .int t_interfaceSet) (C := RX7) (T := TX7) (N := 3) hx hb hts hinX7 hown hKK.1 hP 0 rfl rfl 1 (by decide) lk23 (fun _ h9 => h9) rfl dX7_isClass_9 ?_
    refine lv_iload_n hx hb dX7_isClass_12 rfl (lv_at hl 1 rfl) ?_
    obtain ⟨v4, ev4, h⟩ := bn_some h
    refine kSN (As := [.int t_interfaceSet, .int x1]) (rest := []) SS hKK (qX8_contains l D cI cM t_interfaceSet x1 v4 ev4) cw26 va_P_nil rfl hl.1 rfl (Nat.le_of_ble_eq_true rfl) dX7_isClass_13 ⟨Nat.zero_le _, Nat.zero_le _⟩ ?_
    refine lv_if_ne (tgt := 23) hx hb dX7_isClass_16 (by decide) (fun c5 => ?_) (fun c5 => ?_)
    · have h := ifn h c5
      refine lv_iconst (v := 0) hx hb dX7_isClass_23 (by decide) ?_
      exact kRetZ hx hb hr hlk rfl (Option.some.inj h) dX7_isClass_24
    · have h := ifp h c5
      refine lv_iconst (v := 1) hx hb dX7_isClass_19 (by decide) ?_
      refine lv_goto (tgt := 24) hx hb dX7_isClass_20 (by decide) ?_
      exact kRetZ hx hb hr hlk rfl (Option.some.inj h) dX7_isClass_24
set_option maxHeartbeats 8000000 in
set_option maxRecDepth 100000 in
theorem qX7_areInterfaces (l : Launch) (D : va_G) (cI cM : ClassId) (a_t a_t_supertypes : Nat) (t_count : Int32) (t_interfaceSet : Int32) (t_supertypes : Nat → Int32) (x1 : Int32) (r : Int32) (h : fX7_areInterfaces t_interfaceSet x1 = some r) : PM l yX7_areInterfaces wsX7_areInterfaces rmX7_areInterfaces D cI cM [.ref a_t, .int x1] (W_t cI cM a_t a_t_supertypes t_count t_interfaceSet t_supertypes) r := by
  refine PM.of (cc := cX7_areInterfaces) (maxL := 2) (ret := (some .boolean)) (by decide) rfl (Nat.le_of_ble_eq_true rfl) ?_
  intro p e s m below meth c ls hx hb hr hml hown hts hlk hP hKK hl
  have hown : s.vm.findClass RX7 = some m.cls := hown
  have hl : lv_has ls 2 [(0, .ref a_t), (1, .int x1)] := hl
  generalize hav : ([.ref a_t, .int x1] : List Value) = av at hts ⊢
  have SS : CallFix p m c cX7_areInterfaces 2 s av.toArray wsX7_areInterfaces RX7 := ⟨hx, hb, hml, hown, hts⟩
  have hinX7 : ∀ w ∈ u_ws RX7 TX7 3, w ∈ wsX7_areInterfaces := by decide +kernel
  have lk23 := hts (.fieldLink RX7 23 "SignatureChanger$Types" "interfaceSet" "I") (List.mem_of_getElem? (i := 1) rfl)
  unfold fX7_areInterfaces at h
  refine lv_iload_n hx hb dX7_areInterfaces_0 rfl (lv_at hl 1 rfl) ?_
  refine lv_aload_n hx hb dX7_areInterfaces_1 rfl (lv_at hl 0 rfl) ?_
  refine va_get (D := D) (ci := 7) (v := .int t_interfaceSet) (C := RX7) (T := TX7) (N := 3) hx hb hts hinX7 hown hKK.1 hP 0 rfl rfl 1 (by decide) lk23 (fun _ h9 => h9) rfl dX7_areInterfaces_2 ?_
  refine lv_iconst (v := (-1)) hx hb dX7_areInterfaces_5 (by decide) ?_
  refine lv_ixor hx hb dX7_areInterfaces_6 ?_
  refine lv_iand hx hb dX7_areInterfaces_7 ?_
  refine lv_if_ne (tgt := 15) hx hb dX7_areInterfaces_8 (by decide) (fun c1 => ?_) (fun c1 => ?_)
  · have h := ifn h c1
    refine lv_iconst (v := 0) hx hb dX7_areInterfaces_15 (by decide) ?_
    exact kRetZ hx hb hr hlk rfl (Option.some.inj h) dX7_areInterfaces_16
  · have h := ifp h c1
    refine lv_iconst (v := 1) hx hb dX7_areInterfaces_11 (by decide) ?_
    refine lv_goto (tgt := 16) hx hb dX7_areInterfaces_12 (by decide) ?_
    exact kRetZ hx hb hr hlk rfl (Option.some.inj h) dX7_areInterfaces_16
set_option maxHeartbeats 8000000 in
set_option maxRecDepth 100000 in
theorem qX7_allowsSuperclass (l : Launch) (D : va_G) (cI cM : ClassId) (a_t a_t_supertypes : Nat) (t_count : Int32) (t_interfaceSet : Int32) (t_supertypes : Nat → Int32) (x1 : Int32) (x2 : Int32) (r : Int32) (h : fX7_allowsSuperclass t_count t_interfaceSet x1 x2 = some r) : PM l yX7_allowsSuperclass wsX7_allowsSuperclass rmX7_allowsSuperclass D cI cM [.ref a_t, .int x1, .int x2] (W_t cI cM a_t a_t_supertypes t_count t_interfaceSet t_supertypes) r := by
  refine PM.of (cc := cX7_allowsSuperclass) (maxL := 3) (ret := (some .boolean)) (by decide) rfl (Nat.le_of_ble_eq_true rfl) ?_
  intro p e s m below meth c ls hx hb hr hml hown hts hlk hP hKK hl
  have hown : s.vm.findClass RX7 = some m.cls := hown
  have hl : lv_has ls 3 [(0, .ref a_t), (1, .int x1), (2, .int x2)] := hl
  generalize hav : ([.ref a_t, .int x1, .int x2] : List Value) = av at hts ⊢
  have SS : CallFix p m c cX7_allowsSuperclass 3 s av.toArray wsX7_allowsSuperclass RX7 := ⟨hx, hb, hml, hown, hts⟩
  have cw30 : CallW rmX7_allowsSuperclass s av.toArray RX7 RX7 30 yX7_isClass cX7_isClass 2 (some .boolean) wsX7_isClass rmX7_isClass 0 0 1 := cwV 1 hts gX7_allowsSuperclass_X7_isClass rfl rfl rfl (by decide +kernel) ⟨Nat.le_of_ble_eq_true rfl, Nat.le_of_ble_eq_true rfl⟩
  unfold fX7_allowsSuperclass at h
  refine lv_iload_n hx hb dX7_allowsSuperclass_0 rfl (lv_at hl 2 rfl) ?_
  refine lv_iconst (v := (-1)) hx hb dX7_allowsSuperclass_1 (by decide) ?_
  refine lv_icmp_ne (tgt := 20) hx hb dX7_allowsSuperclass_2 (by decide) (fun c1 => ?_) (fun c1 => ?_)
  · have h := ifn h c1
    refine lv_iload_n hx hb dX7_allowsSuperclass_20 rfl (lv_at hl 1 rfl) ?_
    refine lv_if_ne (tgt := 36) hx hb dX7_allowsSuperclass_21 (by decide) (fun c2 => ?_) (fun c2 => ?_)
    · have h := ifn h c2
      refine lv_iconst (v := 0) hx hb dX7_allowsSuperclass_36 (by decide) ?_
      exact kRetZ hx hb hr hlk rfl (Option.some.inj h) dX7_allowsSuperclass_37
    · have h := ifp h c2
      refine lv_aload_n hx hb dX7_allowsSuperclass_24 rfl (lv_at hl 0 rfl) ?_
      refine lv_iload_n hx hb dX7_allowsSuperclass_25 rfl (lv_at hl 2 rfl) ?_
      obtain ⟨v3, ev3, h⟩ := bn_some h
      have hs4 : va_P D vwCl (W_t cI cM a_t a_t_supertypes t_count t_interfaceSet t_supertypes) _ := hP.sub (ws' := W_t cI cM a_t a_t_supertypes t_count t_interfaceSet t_supertypes) [0, 1] rfl
      refine kV (As := [.int x2]) (rest := []) SS hKK (qX7_isClass l D cI cM a_t a_t_supertypes t_count t_interfaceSet t_supertypes x2 v3 ev3) cw30 hs4 0 7 rfl rfl rfl hl.1 rfl (Nat.le_of_ble_eq_true rfl) dX7_allowsSuperclass_26 ⟨Nat.zero_le _, Nat.zero_le _⟩ ?_
      refine lv_if_eq (tgt := 36) hx hb dX7_allowsSuperclass_29 (by decide) (fun c5 => ?_) (fun c5 => ?_)
      · have h := ifp h c5
        refine lv_iconst (v := 0) hx hb dX7_allowsSuperclass_36 (by decide) ?_
        exact kRetZ hx hb hr hlk rfl (Option.some.inj h) dX7_allowsSuperclass_37
      · have h := ifn h c5
        refine lv_iconst (v := 1) hx hb dX7_allowsSuperclass_32 (by decide) ?_
        refine lv_goto (tgt := 37) hx hb dX7_allowsSuperclass_33 (by decide) ?_
        exact kRetZ hx hb hr hlk rfl (Option.some.inj h) dX7_allowsSuperclass_37
  · have h := ifp h c1
    refine lv_iload_n hx hb dX7_allowsSuperclass_5 rfl (lv_at hl 1 rfl) ?_
    refine lv_if_eq (tgt := 14) hx hb dX7_allowsSuperclass_6 (by decide) (fun c6 => ?_) (fun c6 => ?_)
    · have h := ifp h c6
      refine lv_iconst (v := 1) hx hb dX7_allowsSuperclass_14 (by decide) ?_
      refine lv_goto (tgt := 19) hx hb dX7_allowsSuperclass_15 (by decide) ?_
      exact kRetZ hx hb hr hlk rfl (Option.some.inj h) dX7_allowsSuperclass_19
    · have h := ifn h c6
      refine lv_iload_n hx hb dX7_allowsSuperclass_9 rfl (lv_at hl 1 rfl) ?_
      refine lv_iconst (v := 1) hx hb dX7_allowsSuperclass_10 (by decide) ?_
      refine lv_icmp_ne (tgt := 18) hx hb dX7_allowsSuperclass_11 (by decide) (fun c7 => ?_) (fun c7 => ?_)
      · have h := ifn h c7
        refine lv_iconst (v := 0) hx hb dX7_allowsSuperclass_18 (by decide) ?_
        exact kRetZ hx hb hr hlk rfl (Option.some.inj h) dX7_allowsSuperclass_19
      · have h := ifp h c7
        refine lv_iconst (v := 1) hx hb dX7_allowsSuperclass_14 (by decide) ?_
        refine lv_goto (tgt := 19) hx hb dX7_allowsSuperclass_15 (by decide) ?_
        exact kRetZ hx hb hr hlk rfl (Option.some.inj h) dX7_allowsSuperclass_19
set_option maxHeartbeats 8000000 in
set_option maxRecDepth 100000 in
theorem qX7_inheritedFrom (l : Launch) (D : va_G) (cI cM : ClassId) (a_t a_t_supertypes : Nat) (t_count : Int32) (t_interfaceSet : Int32) (t_supertypes : Nat → Int32) (x1 : Int32) (x2 : Int32) (r : Int32) (h : fX7_inheritedFrom t_count t_supertypes x1 x2 = some r) : PM l yX7_inheritedFrom wsX7_inheritedFrom rmX7_inheritedFrom D cI cM [.ref a_t, .int x1, .int x2] (W_t cI cM a_t a_t_supertypes t_count t_interfaceSet t_supertypes) r := by
  refine PM.of (cc := cX7_inheritedFrom) (maxL := 5) (ret := (some .int)) (by decide) rfl (Nat.le_of_ble_eq_true rfl) ?_
  intro p e s m below meth c ls hx hb hr hml hown hts hlk hP hKK hl
  have hown : s.vm.findClass RX7 = some m.cls := hown
  have hl : lv_has ls 5 [(0, .ref a_t), (1, .int x1), (2, .int x2)] := hl
  generalize hav : ([.ref a_t, .int x1, .int x2] : List Value) = av at hts ⊢
  have SS : CallFix p m c cX7_inheritedFrom 5 s av.toArray wsX7_inheritedFrom RX7 := ⟨hx, hb, hml, hown, hts⟩
  have hinX7 : ∀ w ∈ u_ws RX7 TX7 3, w ∈ wsX7_inheritedFrom := by decide +kernel
  have lk9 := hts (.fieldLink RX7 9 "SignatureChanger$Types" "supertypes" "[I") (List.mem_of_getElem? (i := 1) rfl)
  have lk15 := hts (.fieldLink RX7 15 "SignatureChanger$Types" "count" "I") (List.mem_of_getElem? (i := 2) rfl)
  have cw26 : va_CN rmX7_inheritedFrom s av.toArray RX7 26 yX8_contains RX8 cX8_contains 2 (some .boolean) wsX8_contains rmX8_contains 0 0 2 ∧ (Cond.static yX8_contains).before av.toArray s = true ∧ True := ⟨va_cnB 2 hts gX7_inheritedFrom_X8_contains_n26 rfl rfl rfl (hKK.2.at 8 rfl) (hts (.initialized RX8) (List.mem_of_getElem? (i := 4) rfl)) (by decide +kernel) ⟨Nat.le_of_ble_eq_true rfl, Nat.le_of_ble_eq_true rfl⟩, hts (.static yX8_contains) (List.mem_of_getElem? (i := 3) rfl), trivial⟩
  have F19 : ∀ (n : Nat) (y2 : Int32) (y3 : Int32) (y4 : Int32), lX7_inheritedFrom_19 t_count t_supertypes n y2 y3 y4 = some r → ∀ ls : Array Slot, lv_has ls 5 [(0, .ref a_t), (2, .int y2), (3, .int y3), (4, .int y4)] → WP p l e rmX7_inheritedFrom s m av below meth c r 19 ls [] := by
    intro n
    induction n with
    | zero => intro y2 y3 y4 h; exact no_some h
    | succ n ih =>
      intro y2 y3 y4 h ls hl
      rw [lX7_inheritedFrom_19_s] at h
      refine lv_iload hx hb dX7_inheritedFrom_19 (lv_at hl 3 rfl) ?_
      refine lv_aload_n hx hb dX7_inheritedFrom_21 rfl (lv_at hl 0 rfl) ?_
      refine va_get (D := D) (ci := 7) (v := .int t_count) (C := RX7) (T := TX7) (N := 3) hx hb hts hinX7 hown hKK.1 hP 0 rfl rfl 0 (by decide) lk15 (fun _ h9 => h9) rfl dX7_inheritedFrom_22 ?_
      refine lv_icmp_ge (tgt := 53) hx hb dX7_inheritedFrom_25 (by decide) (fun c1 => ?_) (fun c1 => ?_)
      · have h := ifp h c1
        refine lv_iload_n hx hb dX7_inheritedFrom_53 rfl (lv_at hl 2 rfl) ?_
        exact kRet hx hb hr hlk (Option.some.inj h) dX7_inheritedFrom_54
      · have h := ifn h c1
        refine lv_iload_n hx hb dX7_inheritedFrom_28 rfl (lv_at hl 1 rfl) ?_
        refine lv_iload hx hb dX7_inheritedFrom_29 (lv_at hl 3 rfl) ?_
        obtain ⟨v2, ev2, h⟩ := bn_some h
        refine kSN (As := [.int y2, .int y4]) (rest := []) SS hKK (qX8_contains l D cI cM y2 y4 v2 ev2) cw26 va_P_nil rfl hl.1 rfl (Nat.le_of_ble_eq_true rfl) dX7_inheritedFrom_31 ⟨Nat.zero_le _, Nat.zero_le _⟩ ?_
        refine lv_if_eq (tgt := 47) hx hb dX7_inheritedFrom_34 (by decide) (fun c3 => ?_) (fun c3 => ?_)
        · have h := ifp h c3
          refine lv_iinc (v := y4 + 1) (lv' := [(4, .int (y4 + 1)), (0, .ref a_t), (2, .int y2), (3, .int y3)]) hx hb dX7_inheritedFrom_47 hl (k := 3) rfl rfl (by decide) rfl (fun ls hl => ?_)
          refine lv_goto (tgt := 19) hx hb dX7_inheritedFrom_50 (by decide) ?_
          exact ih y2 y3 (y4 + 1) h ls (lv_sub (l' := [(0, .ref a_t), (2, .int y2), (3, .int y3), (4, .int (y4 + 1))]) hl [1, 2, 3, 0] rfl)
        · have h := ifn h c3
          refine lv_iload_n hx hb dX7_inheritedFrom_37 rfl (lv_at hl 2 rfl) ?_
          refine lv_aload_n hx hb dX7_inheritedFrom_38 rfl (lv_at hl 0 rfl) ?_
          refine va_get (D := D) (ci := 7) (v := .ref a_t_supertypes) (C := RX7) (T := TX7) (N := 3) hx hb hts hinX7 hown hKK.1 hP 0 rfl rfl 2 (by decide) lk9 (fun _ h9 => h9) rfl dX7_inheritedFrom_39 ?_
          refine lv_iload hx hb dX7_inheritedFrom_42 (lv_at hl 3 rfl) ?_
          obtain ⟨v4, iv4, ev4, h⟩ := rd_some h
          refine kAld hx hb hKK hP 1 rfl iv4 ev4 dX7_inheritedFrom_44 ?_
          refine lv_ior hx hb dX7_inheritedFrom_45 ?_
          refine lv_istore_n (lv' := [(3, .int (y3 ||| v4)), (0, .ref a_t), (2, .int y2), (4, .int y4)]) hx hb dX7_inheritedFrom_46 rfl hl (by decide) rfl (fun ls hl => ?_)
          refine lv_iinc (v := y4 + 1) (lv' := [(4, .int (y4 + 1)), (3, .int (y3 ||| v4)), (0, .ref a_t), (2, .int y2)]) hx hb dX7_inheritedFrom_47 hl (k := 3) rfl rfl (by decide) rfl (fun ls hl => ?_)
          refine lv_goto (tgt := 19) hx hb dX7_inheritedFrom_50 (by decide) ?_
          exact ih y2 (y3 ||| v4) (y4 + 1) h ls (lv_sub (l' := [(0, .ref a_t), (2, .int y2), (3, .int (y3 ||| v4)), (4, .int (y4 + 1))]) hl [2, 3, 1, 0] rfl)
  have F15 : ∀ (y2 : Int32) (s0 : Int32), jX7_inheritedFrom_15 t_count t_supertypes y2 s0 = some r → ∀ ls : Array Slot, lv_has ls 5 [(0, .ref a_t), (2, .int y2)] → WP p l e rmX7_inheritedFrom s m av below meth c r 15 ls [.int s0] := by
    intro y2 s0 h ls hl
    unfold jX7_inheritedFrom_15 at h
    refine lv_istore_n (lv' := [(3, .int s0), (0, .ref a_t), (2, .int y2)]) hx hb dX7_inheritedFrom_15 rfl hl (by decide) rfl (fun ls hl => ?_)
    refine lv_iconst (v := 0) hx hb dX7_inheritedFrom_16 (by decide) ?_
    refine lv_istore (lv' := [(4, .int 0), (3, .int s0), (0, .ref a_t), (2, .int y2)]) hx hb dX7_inheritedFrom_17 hl (by decide) rfl (fun ls hl => ?_)
    exact F19 5000 y2 s0 0 h ls (lv_sub (l' := [(0, .ref a_t), (2, .int y2), (3, .int s0), (4, .int 0)]) hl [2, 3, 1, 0] rfl)
  unfold fX7_inheritedFrom at h
  refine lv_iload_n hx hb dX7_inheritedFrom_0 rfl (lv_at hl 1 rfl) ?_
  refine lv_iconst (v := (-1)) hx hb dX7_inheritedFrom_1 (by decide) ?_
  refine lv_icmp_ne (tgt := 9) hx hb dX7_inheritedFrom_2 (by decide) (fun c1 => ?_) (fun c1 => ?_)
  · have h := ifn h c1
    refine lv_aload_n hx hb dX7_inheritedFrom_9 rfl (lv_at hl 0 rfl) ?_
    refine va_get (D := D) (ci := 7) (v := .ref a_t_supertypes) (C := RX7) (T := TX7) (N := 3) hx hb hts hinX7 hown hKK.1 hP 0 rfl rfl 2 (by decide) lk9 (fun _ h9 => h9) rfl dX7_inheritedFrom_10 ?_
    refine lv_iload_n hx hb dX7_inheritedFrom_13 rfl (lv_at hl 1 rfl) ?_
    obtain ⟨v2, iv2, ev2, h⟩ := rd_some h
    refine kAld hx hb hKK hP 1 rfl iv2 ev2 dX7_inheritedFrom_14 ?_
    exact F15 x2 v2 h ls (lv_sub (l' := [(0, .ref a_t), (2, .int x2)]) hl [0, 2] rfl)
  · have h := ifp h c1
    refine lv_iconst (v := 0) hx hb dX7_inheritedFrom_5 (by decide) ?_
    refine lv_goto (tgt := 15) hx hb dX7_inheritedFrom_6 (by decide) ?_
    exact F15 x2 0 h ls (lv_sub (l' := [(0, .ref a_t), (2, .int x2)]) hl [0, 2] rfl)
set_option maxHeartbeats 8000000 in
set_option maxRecDepth 100000 in
theorem qX7_add (l : Launch) (D : va_G) (cI cM : ClassId) (a_t a_t_supertypes : Nat) (t_count : Int32) (t_interfaceSet : Int32) (t_supertypes : Nat → Int32) (x1 : Int32) (x2 : Int32) (r : Int32) (r_t_count : Int32) (r_t_interfaceSet : Int32) (r_t_supertypes : Nat → Int32) (h : fX7_add t_count t_interfaceSet t_supertypes x1 x2 = some (r, r_t_count, r_t_interfaceSet, r_t_supertypes)) : IM l yX7_add wsX7_add rmX7_add D cI cM [.ref a_t, .int x1, .int x2] (W_t cI cM a_t a_t_supertypes t_count t_interfaceSet t_supertypes) (W_t cI cM a_t a_t_supertypes r_t_count r_t_interfaceSet r_t_supertypes) (some (.int r)) := by
  refine IM.of (cc := cX7_add) (maxL := 4) (ret := (some .int)) (by decide) rfl (Nat.le_of_ble_eq_true rfl) ?_
  intro p e s m below meth c ls hx hb hr hml hown hts hlk hKK hP hD hS hl
  have hown : s.vm.findClass RX7 = some m.cls := hown
  have hl : lv_has ls 4 [(0, .ref a_t), (1, .int x1), (2, .int x2)] := hl
  generalize hav : ([.ref a_t, .int x1, .int x2] : List Value) = av at hts ⊢
  generalize hw1 : W_t cI cM a_t a_t_supertypes r_t_count r_t_interfaceSet r_t_supertypes = w1
  generalize hw0 : W_t cI cM a_t a_t_supertypes t_count t_interfaceSet t_supertypes = w0 at hD hS ⊢
  have hP : va_P D vwCl (W_t cI cM a_t a_t_supertypes t_count t_interfaceSet t_supertypes) s.heap := hP
  have hD : va_D (fun q => q ∈ w0.map (·.1)) (W_t cI cM a_t a_t_supertypes t_count t_interfaceSet t_supertypes) := by rw [hw0]; exact hD
  have SS : CallFix p m c cX7_add 4 s av.toArray wsX7_add RX7 := ⟨hx, hb, hml, hown, hts⟩
  have hinX7 : ∀ w ∈ u_ws RX7 TX7 3, w ∈ wsX7_add := by decide +kernel
  have lk9 := hts (.fieldLink RX7 9 "SignatureChanger$Types" "supertypes" "[I") (List.mem_of_getElem? (i := 2) rfl)
  have lk15 := hts (.fieldLink RX7 15 "SignatureChanger$Types" "count" "I") (List.mem_of_getElem? (i := 1) rfl)
  have lk23 := hts (.fieldLink RX7 23 "SignatureChanger$Types" "interfaceSet" "I") (List.mem_of_getElem? (i := 3) rfl)
  have cw33 : va_CN rmX7_add s av.toArray RX7 33 yX8_bit RX8 cX8_bit 1 (some .int) wsX8_bit rmX8_bit 0 0 1 ∧ (Cond.static yX8_bit).before av.toArray s = true ∧ True := ⟨va_cnB 1 hts gX7_add_X8_bit_n33 rfl rfl rfl (hKK.2.at 14 rfl) (hts (.initialized RX8) (List.mem_of_getElem? (i := 5) rfl)) (by decide +kernel) ⟨Nat.le_of_ble_eq_true rfl, Nat.le_of_ble_eq_true rfl⟩, hts (.static yX8_bit) (List.mem_of_getElem? (i := 4) rfl), trivial⟩
  have F35 : ∀ (H : Heap) (locs : List Loc) (t_count : Int32) (t_interfaceSet : Int32) (t_supertypes : Nat → Int32) (y3 : Int32), jX7_add_35  t_count t_interfaceSet t_supertypes y3 = some (r, r_t_count, r_t_interfaceSet, r_t_supertypes) → va_P D vwCl (W_t cI cM a_t a_t_supertypes t_count t_interfaceSet t_supertypes) H → va_D (fun q => q ∈ (w0).map (·.1)) (W_t cI cM a_t a_t_supertypes t_count t_interfaceSet t_supertypes) → va_S (fun q => q ∈ (w0).map (·.1)) s.heap H locs → ∀ ls : Array Slot, lv_has ls 4 [(0, .ref a_t), (3, .int y3)] → WI p l e rmX7_add s m av below meth c D w0 w1 (some (.int r)) H locs 35 ls [] := by
    intro H locs t_count t_interfaceSet t_supertypes y3 h hP hD hS ls hl
    unfold jX7_add_35 at h
    refine lv_aload_n hx hb dX7_add_35 rfl (lv_at hl 0 rfl) ?_
    refine lv_dup hx hb dX7_add_36 rfl ?_
    refine va_get (D := D) (ci := 7) (v := .int t_count) (C := RX7) (T := TX7) (N := 3) hx hb hts hinX7 hown hKK.1 hP 0 rfl rfl 0 (by decide) lk15 (fun _ h9 => h9) rfl dX7_add_37 ?_
    refine lv_iconst (v := 1) hx hb dX7_add_40 (by decide) ?_
    refine lv_iadd hx hb dX7_add_41 ?_
    refine va_put (D := D) (ci := 7) (v := .int (t_count + 1)) (ty := .int) (C := RX7) (T := TX7) (N := 3) hx hb hts hinX7 tyX7 tyX7_ok nmX7 hown hKK.1 hP hD hS 0 rfl rfl 0 (by decide) lk15 (fun _ h9 => h9) rfl (by decide +kernel) rfl rfl (Nat.le_of_ble_eq_true rfl) dX7_add_42 (fun H locs hP hD hS => ?_)
    have hP : va_P D vwCl (W_t cI cM a_t a_t_supertypes (t_count + 1) t_interfaceSet t_supertypes) H := hP
    have hD : va_D _ (W_t cI cM a_t a_t_supertypes (t_count + 1) t_interfaceSet t_supertypes) := hD
    refine lv_iload_n hx hb dX7_add_45 rfl (lv_at hl 1 rfl) ?_
    simp only [Option.some.injEq, Prod.mk.injEq] at h
    obtain ⟨e0, e1, e2, e3⟩ := h
    exact kRetI hx hb hr hlk e0 (by rw [← hw1, ← e1, ← e2, ← e3]; exact hP) hS dX7_add_46
  unfold fX7_add at h
  refine lv_aload_n hx hb dX7_add_0 rfl (lv_at hl 0 rfl) ?_
  refine va_get (D := D) (ci := 7) (v := .int t_count) (C := RX7) (T := TX7) (N := 3) hx hb hts hinX7 hown hKK.1 hP 0 rfl rfl 0 (by decide) lk15 (fun _ h9 => h9) rfl dX7_add_1 ?_
  refine lv_istore_n (lv' := [(3, .int t_count), (0, .ref a_t), (1, .int x1), (2, .int x2)]) hx hb dX7_add_4 rfl hl (by decide) rfl (fun ls hl => ?_)
  refine lv_aload_n hx hb dX7_add_5 rfl (lv_at hl 1 rfl) ?_
  refine va_get (D := D) (ci := 7) (v := .ref a_t_supertypes) (C := RX7) (T := TX7) (N := 3) hx hb hts hinX7 hown hKK.1 hP 0 rfl rfl 2 (by decide) lk9 (fun _ h9 => h9) rfl dX7_add_6 ?_
  refine lv_iload_n hx hb dX7_add_9 rfl (lv_at hl 0 rfl) ?_
  refine lv_iload_n hx hb dX7_add_10 rfl (lv_at hl 3 rfl) ?_
  refine lv_iload_n hx hb dX7_add_11 rfl (lv_at hl 0 rfl) ?_
  obtain ⟨v1, ev1, h⟩ := bn_some h
  refine kSN (As := [.int t_count]) (rest := [.int x2, .int t_count, .ref a_t_supertypes]) SS hKK (qX8_bit l D cI cM t_count v1 ev1) cw33 va_P_nil rfl hl.1 rfl (Nat.le_of_ble_eq_true rfl) dX7_add_12 ⟨Nat.zero_le _, Nat.zero_le _⟩ ?_
  refine lv_ior hx hb dX7_add_15 ?_
  obtain ⟨g2, ig2, eg2, h⟩ := wr_some h
  refine kAst hx hb hKK hP hD hS 1 rfl ig2 eg2 dX7_add_16 (fun H locs hP hD hS => ?_)
  have hP : va_P D vwCl (W_t cI cM a_t a_t_supertypes t_count t_interfaceSet g2) H := hP
  have hD : va_D _ (W_t cI cM a_t a_t_supertypes t_count t_interfaceSet g2) := hD
  refine lv_iload_n hx hb dX7_add_17 rfl (lv_at hl 2 rfl) ?_
  refine lv_iconst (v := 1) hx hb dX7_add_18 (by decide) ?_
  refine lv_icmp_ne (tgt := 35) hx hb dX7_add_19 (by decide) (fun c3 => ?_) (fun c3 => ?_)
  · have h := ifn h c3
    exact F35 H locs t_count t_interfaceSet g2 t_count h hP hD hS ls (lv_sub (l' := [(0, .ref a_t), (3, .int t_count)]) hl [1, 0] rfl)
  · have h := ifp h c3
    refine lv_aload_n hx hb dX7_add_22 rfl (lv_at hl 1 rfl) ?_
    refine lv_dup hx hb dX7_add_23 rfl ?_
    refine va_get (D := D) (ci := 7) (v := .int t_interfaceSet) (C := RX7) (T := TX7) (N := 3) hx hb hts hinX7 hown hKK.1 hP 0 rfl rfl 1 (by decide) lk23 (fun _ h9 => h9) rfl dX7_add_24 ?_
    refine lv_iload_n hx hb dX7_add_27 rfl (lv_at hl 0 rfl) ?_
    obtain ⟨v4, ev4, h⟩ := bn_some h
    refine kSN (As := [.int t_count]) (rest := [.int t_interfaceSet, .ref a_t]) SS hKK (qX8_bit l D cI cM t_count v4 ev4) cw33 va_P_nil rfl hl.1 rfl (Nat.le_of_ble_eq_true rfl) dX7_add_28 ⟨Nat.zero_le _, Nat.zero_le _⟩ ?_
    refine lv_ior hx hb dX7_add_31 ?_
    refine va_put (D := D) (ci := 7) (v := .int (t_interfaceSet ||| v4)) (ty := .int) (C := RX7) (T := TX7) (N := 3) hx hb hts hinX7 tyX7 tyX7_ok nmX7 hown hKK.1 hP hD hS 0 rfl rfl 1 (by decide) lk23 (fun _ h9 => h9) rfl (by decide +kernel) rfl rfl (Nat.le_of_ble_eq_true rfl) dX7_add_32 (fun H locs hP hD hS => ?_)
    have hP : va_P D vwCl (W_t cI cM a_t a_t_supertypes t_count (t_interfaceSet ||| v4) g2) H := hP
    have hD : va_D _ (W_t cI cM a_t a_t_supertypes t_count (t_interfaceSet ||| v4) g2) := hD
    exact F35 H locs t_count (t_interfaceSet ||| v4) g2 t_count h hP hD hS ls (lv_sub (l' := [(0, .ref a_t), (3, .int t_count)]) hl [1, 0] rfl)
set_option maxHeartbeats 8000000 in
set_option maxRecDepth 100000 in
theorem qX8_beginEdit (l : Launch) (D : va_G) (cI cM : ClassId) (a_x a_x_hoistedOfCall a_o a_t a_t_supertypes a_m a_m_type a_m_name a_m_arity a_m_keys a_m_defaults a_k a_k_staticType a_k_dynamicType a_k_target a_k_argumentCounts a_k_temporaryCounts a_k_keys a_k_kinds a_k_values a_k_temporaryKinds a_k_newKinds a_k_newValues a_d a_d_sources a_d_keys a_d_defaults a_h a_h_saved a_e a_e_temporaries a_e_arguments a_g a_g_kinds a_g_positions : Nat) (a_h_ad : Nat → Nat → Nat) (x_hoistedOfCall : Nat → Int32) (t_count : Int32) (t_interfaceSet : Int32) (t_supertypes : Nat → Int32) (m_count : Int32) (m_type : Nat → Int32) (m_name : Nat → Int32) (m_arity : Nat → Int32) (m_keys : Nat → Int32) (m_defaults : Nat → Int32) (k_count : Int32) (k_frozenSet : Int32) (k_staticType : Nat → Int32) (k_dynamicType : Nat → Int32) (k_target : Nat → Int32) (k_argumentCounts : Nat → Int32) (k_temporaryCounts : Nat → Int32) (k_keys : Nat → Int32) (k_kinds : Nat → Int32) (k_values : Nat → Int32) (k_temporaryKinds : Nat → Int32) (k_newKinds : Nat → Int32) (k_newValues : Nat → Int32) (d_open : Int32) (d_method : Int32) (d_family : Int32) (d_oldCount : Int32) (d_keptSet : Int32) (d_count : Int32) (d_sources : Nat → Int32) (d_keys : Nat → Int32) (d_defaults : Nat → Int32) (d_usedKeys : Int32) (h_count : Int32) (h_next : Int32) (e_counter : Int32) (e_temporaries : Nat → Int32) (e_arguments : Nat → Int32) (g_count : Int32) (g_kept : Int32) (g_kinds : Nat → Int32) (g_positions : Nat → Int32) (h_hs : Nat → MS) (r_d_open : Int32) (r_h_count : Int32) (r_h_next : Int32) (r_h_hs : Nat → MS) (h : fX8_beginEdit t_count t_interfaceSet t_supertypes m_count m_type m_name m_arity m_keys m_defaults k_count k_frozenSet k_staticType k_dynamicType k_target k_argumentCounts k_temporaryCounts k_keys k_kinds k_values k_temporaryKinds k_newKinds k_newValues d_open h_count h_next h_hs = some (r_d_open, r_h_count, r_h_next, r_h_hs)) : IM l yX8_beginEdit wsX8_beginEdit rmX8_beginEdit D cI cM [.ref a_x] (W_x_o_t_m_k_d_h_e_g cI cM a_x a_x_hoistedOfCall a_o a_t a_t_supertypes a_m a_m_type a_m_name a_m_arity a_m_keys a_m_defaults a_k a_k_staticType a_k_dynamicType a_k_target a_k_argumentCounts a_k_temporaryCounts a_k_keys a_k_kinds a_k_values a_k_temporaryKinds a_k_newKinds a_k_newValues a_d a_d_sources a_d_keys a_d_defaults a_h a_h_saved a_e a_e_temporaries a_e_arguments a_g a_g_kinds a_g_positions a_h_ad x_hoistedOfCall t_count t_interfaceSet t_supertypes m_count m_type m_name m_arity m_keys m_defaults k_count k_frozenSet k_staticType k_dynamicType k_target k_argumentCounts k_temporaryCounts k_keys k_kinds k_values k_temporaryKinds k_newKinds k_newValues d_open d_method d_family d_oldCount d_keptSet d_count d_sources d_keys d_defaults d_usedKeys h_count h_next e_counter e_temporaries e_arguments g_count g_kept g_kinds g_positions ++ hW cI cM a_h_ad h_hs) (W_x_o_t_m_k_d_h_e_g cI cM a_x a_x_hoistedOfCall a_o a_t a_t_supertypes a_m a_m_type a_m_name a_m_arity a_m_keys a_m_defaults a_k a_k_staticType a_k_dynamicType a_k_target a_k_argumentCounts a_k_temporaryCounts a_k_keys a_k_kinds a_k_values a_k_temporaryKinds a_k_newKinds a_k_newValues a_d a_d_sources a_d_keys a_d_defaults a_h a_h_saved a_e a_e_temporaries a_e_arguments a_g a_g_kinds a_g_positions a_h_ad x_hoistedOfCall t_count t_interfaceSet t_supertypes m_count m_type m_name m_arity m_keys m_defaults k_count k_frozenSet k_staticType k_dynamicType k_target k_argumentCounts k_temporaryCounts k_keys k_kinds k_values k_temporaryKinds k_newKinds k_newValues r_d_open d_method d_family d_oldCount d_keptSet d_count d_sources d_keys d_defaults d_usedKeys r_h_count r_h_next e_counter e_temporaries e_arguments g_count g_kept g_kinds g_positions ++ hW cI cM a_h_ad r_h_hs) none := by
  refine IM.of (cc := cX8_beginEdit) (maxL := 1) (ret := none) (by decide) rfl (Nat.le_of_ble_eq_true rfl) ?_
  intro p e s m below meth c ls hx hb hr hml hown hts hlk hKK hP hD hS hl
  have hown : s.vm.findClass RX8 = some m.cls := hown
  have hl : lv_has ls 1 [(0, .ref a_x)] := hl
  generalize hav : ([.ref a_x] : List Value) = av at hts ⊢
  generalize hw1 : W_x_o_t_m_k_d_h_e_g cI cM a_x a_x_hoistedOfCall a_o a_t a_t_supertypes a_m a_m_type a_m_name a_m_arity a_m_keys a_m_defaults a_k a_k_staticType a_k_dynamicType a_k_target a_k_argumentCounts a_k_temporaryCounts a_k_keys a_k_kinds a_k_values a_k_temporaryKinds a_k_newKinds a_k_newValues a_d a_d_sources a_d_keys a_d_defaults a_h a_h_saved a_e a_e_temporaries a_e_arguments a_g a_g_kinds a_g_positions a_h_ad x_hoistedOfCall t_count t_interfaceSet t_supertypes m_count m_type m_name m_arity m_keys m_defaults k_count k_frozenSet k_staticType k_dynamicType k_target k_argumentCounts k_temporaryCounts k_keys k_kinds k_values k_temporaryKinds k_newKinds k_newValues r_d_open d_method d_family d_oldCount d_keptSet d_count d_sources d_keys d_defaults d_usedKeys r_h_count r_h_next e_counter e_temporaries e_arguments g_count g_kept g_kinds g_positions ++ hW cI cM a_h_ad r_h_hs = w1
  generalize hw0 : W_x_o_t_m_k_d_h_e_g cI cM a_x a_x_hoistedOfCall a_o a_t a_t_supertypes a_m a_m_type a_m_name a_m_arity a_m_keys a_m_defaults a_k a_k_staticType a_k_dynamicType a_k_target a_k_argumentCounts a_k_temporaryCounts a_k_keys a_k_kinds a_k_values a_k_temporaryKinds a_k_newKinds a_k_newValues a_d a_d_sources a_d_keys a_d_defaults a_h a_h_saved a_e a_e_temporaries a_e_arguments a_g a_g_kinds a_g_positions a_h_ad x_hoistedOfCall t_count t_interfaceSet t_supertypes m_count m_type m_name m_arity m_keys m_defaults k_count k_frozenSet k_staticType k_dynamicType k_target k_argumentCounts k_temporaryCounts k_keys k_kinds k_values k_temporaryKinds k_newKinds k_newValues d_open d_method d_family d_oldCount d_keptSet d_count d_sources d_keys d_defaults d_usedKeys h_count h_next e_counter e_temporaries e_arguments g_count g_kept g_kinds g_positions ++ hW cI cM a_h_ad h_hs = w0 at hD hS ⊢
  have hP : va_P D vwCl (W_x_o_t_m_k_d_h_e_g cI cM a_x a_x_hoistedOfCall a_o a_t a_t_supertypes a_m a_m_type a_m_name a_m_arity a_m_keys a_m_defaults a_k a_k_staticType a_k_dynamicType a_k_target a_k_argumentCounts a_k_temporaryCounts a_k_keys a_k_kinds a_k_values a_k_temporaryKinds a_k_newKinds a_k_newValues a_d a_d_sources a_d_keys a_d_defaults a_h a_h_saved a_e a_e_temporaries a_e_arguments a_g a_g_kinds a_g_positions a_h_ad x_hoistedOfCall t_count t_interfaceSet t_supertypes m_count m_type m_name m_arity m_keys m_defaults k_count k_frozenSet k_staticType k_dynamicType k_target k_argumentCounts k_temporaryCounts k_keys k_kinds k_values k_temporaryKinds k_newKinds k_newValues d_open d_method d_family d_oldCount d_keptSet d_count d_sources d_keys d_defaults d_usedKeys h_count h_next e_counter e_temporaries e_arguments g_count g_kept g_kinds g_positions ++ hW cI cM a_h_ad h_hs) s.heap := hP
  have hD : va_D (fun q => q ∈ w0.map (·.1)) (W_x_o_t_m_k_d_h_e_g cI cM a_x a_x_hoistedOfCall a_o a_t a_t_supertypes a_m a_m_type a_m_name a_m_arity a_m_keys a_m_defaults a_k a_k_staticType a_k_dynamicType a_k_target a_k_argumentCounts a_k_temporaryCounts a_k_keys a_k_kinds a_k_values a_k_temporaryKinds a_k_newKinds a_k_newValues a_d a_d_sources a_d_keys a_d_defaults a_h a_h_saved a_e a_e_temporaries a_e_arguments a_g a_g_kinds a_g_positions a_h_ad x_hoistedOfCall t_count t_interfaceSet t_supertypes m_count m_type m_name m_arity m_keys m_defaults k_count k_frozenSet k_staticType k_dynamicType k_target k_argumentCounts k_temporaryCounts k_keys k_kinds k_values k_temporaryKinds k_newKinds k_newValues d_open d_method d_family d_oldCount d_keptSet d_count d_sources d_keys d_defaults d_usedKeys h_count h_next e_counter e_temporaries e_arguments g_count g_kept g_kinds g_positions ++ hW cI cM a_h_ad h_hs) := by rw [hw0]; exact hD
  have SS : CallFix p m c cX8_beginEdit 1 s av.toArray wsX8_beginEdit RX8 := ⟨hx, hb, hml, hown, hts⟩
  have hinX8 : ∀ w ∈ u_ws RX8 TX8 6, w ∈ wsX8_beginEdit := by decide +kernel
  have lk10 := hts (.fieldLink RX8 10 "SignatureChanger" "model" "LSignatureChanger$Model;") (List.mem_of_getElem? (i := 2) rfl)
  have lk19 := hts (.fieldLink RX8 19 "SignatureChanger" "draft" "LSignatureChanger$Draft;") (List.mem_of_getElem? (i := 3) rfl)
  have lk26 := hts (.fieldLink RX8 26 "SignatureChanger" "history" "LSignatureChanger$History;") (List.mem_of_getElem? (i := 1) rfl)
  have cw246 : CallW rmX8_beginEdit s av.toArray RX8 RX3 246 yX3_remember cX3_remember 2 none wsX3_remember rmX3_remember 0 0 1 := cwV 1 hts gX8_beginEdit_X3_remember rfl rfl rfl (by decide +kernel) ⟨Nat.le_of_ble_eq_true rfl, Nat.le_of_ble_eq_true rfl⟩
  have cw258 : CallW rmX8_beginEdit s av.toArray RX8 RX1 258 yX1_close cX1_close 1 none wsX1_close rmX1_close 0 0 0 := cwV 0 hts gX8_beginEdit_X1_close rfl rfl rfl (by decide +kernel) ⟨Nat.le_of_ble_eq_true rfl, Nat.le_of_ble_eq_true rfl⟩
  unfold fX8_beginEdit at h
  refine lv_aload_n hx hb dX8_beginEdit_0 rfl (lv_at hl 0 rfl) ?_
  refine va_get (D := D) (ci := 8) (v := .ref a_h) (C := RX8) (T := TX8) (N := 6) hx hb hts hinX8 hown hKK.1 hP 0 rfl rfl 2 (by decide) lk26 (fun _ h9 => h9) rfl dX8_beginEdit_1 ?_
  refine lv_aload_n hx hb dX8_beginEdit_4 rfl (lv_at hl 0 rfl) ?_
  refine va_get (D := D) (ci := 8) (v := .ref a_o) (C := RX8) (T := TX8) (N := 6) hx hb hts hinX8 hown hKK.1 hP 0 rfl rfl 0 (by decide) lk10 (fun _ h9 => h9) rfl dX8_beginEdit_5 ?_
  obtain ⟨g1, g2, g3, eg1, h⟩ := bn3_some h
  refine kVB (As := [.ref a_o]) (rest := []) (st1 := []) (Bs := [B_x cI cM a_x a_x_hoistedOfCall a_o a_d a_h a_e a_g x_hoistedOfCall, B_o cI cM a_o a_t a_m a_k , B_t cI cM a_t a_t_supertypes t_count t_interfaceSet t_supertypes, B_m cI cM a_m a_m_type a_m_name a_m_arity a_m_keys a_m_defaults m_count m_type m_name m_arity m_keys m_defaults, B_k cI cM a_k a_k_staticType a_k_dynamicType a_k_target a_k_argumentCounts a_k_temporaryCounts a_k_keys a_k_kinds a_k_values a_k_temporaryKinds a_k_newKinds a_k_newValues k_count k_frozenSet k_staticType k_dynamicType k_target k_argumentCounts k_temporaryCounts k_keys k_kinds k_values k_temporaryKinds k_newKinds k_newValues, B_d cI cM a_d a_d_sources a_d_keys a_d_defaults d_open d_method d_family d_oldCount d_keptSet d_count d_sources d_keys d_defaults d_usedKeys, B_h cI cM a_h a_h_saved a_h_ad h_count h_next, B_e cI cM a_e a_e_temporaries a_e_arguments e_counter e_temporaries e_arguments, B_g cI cM a_g a_g_kinds a_g_positions g_count g_kept g_kinds g_positions, hW cI cM a_h_ad h_hs]) (Bs1 := [B_x cI cM a_x a_x_hoistedOfCall a_o a_d a_h a_e a_g x_hoistedOfCall, B_o cI cM a_o a_t a_m a_k , B_t cI cM a_t a_t_supertypes t_count t_interfaceSet t_supertypes, B_m cI cM a_m a_m_type a_m_name a_m_arity a_m_keys a_m_defaults m_count m_type m_name m_arity m_keys m_defaults, B_k cI cM a_k a_k_staticType a_k_dynamicType a_k_target a_k_argumentCounts a_k_temporaryCounts a_k_keys a_k_kinds a_k_values a_k_temporaryKinds a_k_newKinds a_k_newValues k_count k_frozenSet k_staticType k_dynamicType k_target k_argumentCounts k_temporaryCounts k_keys k_kinds k_values k_temporaryKinds k_newKinds k_newValues, B_d cI cM a_d a_d_sources a_d_keys a_d_defaults d_open d_method d_family d_oldCount d_keptSet d_count d_sources d_keys d_defaults d_usedKeys, B_h cI cM a_h a_h_saved a_h_ad g1 g2, B_e cI cM a_e a_e_temporaries a_e_arguments e_counter e_temporaries e_arguments, B_g cI cM a_g a_g_kinds a_g_positions g_count g_kept g_kinds g_positions, hW cI cM a_h_ad g3]) SS hKK (qX3_remember l D cI cM a_h a_h_saved a_o a_t a_t_supertypes a_m a_m_type a_m_name a_m_arity a_m_keys a_m_defaults a_k a_k_staticType a_k_dynamicType a_k_target a_k_argumentCounts a_k_temporaryCounts a_k_keys a_k_kinds a_k_values a_k_temporaryKinds a_k_newKinds a_k_newValues a_h_ad h_count h_next t_count t_interfaceSet t_supertypes m_count m_type m_name m_arity m_keys m_defaults k_count k_frozenSet k_staticType k_dynamicType k_target k_argumentCounts k_temporaryCounts k_keys k_kinds k_values k_temporaryKinds k_newKinds k_newValues h_hs g1 g2 g3 eg1) cw246 hP hD hS (isC := [6, 1, 2, 3, 4, 9]) (isR := [0, 5, 7, 8]) (C0 := [B_h cI cM a_h a_h_saved a_h_ad h_count h_next, B_o cI cM a_o a_t a_m a_k , B_t cI cM a_t a_t_supertypes t_count t_interfaceSet t_supertypes, B_m cI cM a_m a_m_type a_m_name a_m_arity a_m_keys a_m_defaults m_count m_type m_name m_arity m_keys m_defaults, B_k cI cM a_k a_k_staticType a_k_dynamicType a_k_target a_k_argumentCounts a_k_temporaryCounts a_k_keys a_k_kinds a_k_values a_k_temporaryKinds a_k_newKinds a_k_newValues k_count k_frozenSet k_staticType k_dynamicType k_target k_argumentCounts k_temporaryCounts k_keys k_kinds k_values k_temporaryKinds k_newKinds k_newValues, hW cI cM a_h_ad h_hs]) (C1 := [B_h cI cM a_h a_h_saved a_h_ad g1 g2, B_o cI cM a_o a_t a_m a_k , B_t cI cM a_t a_t_supertypes t_count t_interfaceSet t_supertypes, B_m cI cM a_m a_m_type a_m_name a_m_arity a_m_keys a_m_defaults m_count m_type m_name m_arity m_keys m_defaults, B_k cI cM a_k a_k_staticType a_k_dynamicType a_k_target a_k_argumentCounts a_k_temporaryCounts a_k_keys a_k_kinds a_k_values a_k_temporaryKinds a_k_newKinds a_k_newValues k_count k_frozenSet k_staticType k_dynamicType k_target k_argumentCounts k_temporaryCounts k_keys k_kinds k_values k_temporaryKinds k_newKinds k_newValues, hW cI cM a_h_ad g3]) (Rr := [B_x cI cM a_x a_x_hoistedOfCall a_o a_d a_h a_e a_g x_hoistedOfCall, B_d cI cM a_d a_d_sources a_d_keys a_d_defaults d_open d_method d_family d_oldCount d_keptSet d_count d_sources d_keys d_defaults d_usedKeys, B_e cI cM a_e a_e_temporaries a_e_arguments e_counter e_temporaries e_arguments, B_g cI cM a_g a_g_kinds a_g_positions g_count g_kept g_kinds g_positions]) (show (List.range 10).Perm ([6, 1, 2, 3, 4, 9] ++ [0, 5, 7, 8]) by decide) rfl rfl rfl rfl rfl rfl rfl (hW_addr rfl) 0 3 rfl rfl rfl hl.1 rfl (Nat.le_of_ble_eq_true rfl) dX8_beginEdit_8 ⟨Nat.zero_le _, Nat.zero_le _⟩ rfl (fun H locs hP hD hS => ?_)
  have hP : va_P D vwCl (W_x_o_t_m_k_d_h_e_g cI cM a_x a_x_hoistedOfCall a_o a_t a_t_supertypes a_m a_m_type a_m_name a_m_arity a_m_keys a_m_defaults a_k a_k_staticType a_k_dynamicType a_k_target a_k_argumentCounts a_k_temporaryCounts a_k_keys a_k_kinds a_k_values a_k_temporaryKinds a_k_newKinds a_k_newValues a_d a_d_sources a_d_keys a_d_defaults a_h a_h_saved a_e a_e_temporaries a_e_arguments a_g a_g_kinds a_g_positions a_h_ad x_hoistedOfCall t_count t_interfaceSet t_supertypes m_count m_type m_name m_arity m_keys m_defaults k_count k_frozenSet k_staticType k_dynamicType k_target k_argumentCounts k_temporaryCounts k_keys k_kinds k_values k_temporaryKinds k_newKinds k_newValues d_open d_method d_family d_oldCount d_keptSet d_count d_sources d_keys d_defaults d_usedKeys g1 g2 e_counter e_temporaries e_arguments g_count g_kept g_kinds g_positions ++ hW cI cM a_h_ad g3) H := hP
  have hD : va_D _ (W_x_o_t_m_k_d_h_e_g cI cM a_x a_x_hoistedOfCall a_o a_t a_t_supertypes a_m a_m_type a_m_name a_m_arity a_m_keys a_m_defaults a_k a_k_staticType a_k_dynamicType a_k_target a_k_argumentCounts a_k_temporaryCounts a_k_keys a_k_kinds a_k_values a_k_temporaryKinds a_k_newKinds a_k_newValues a_d a_d_sources a_d_keys a_d_defaults a_h a_h_saved a_e a_e_temporaries a_e_arguments a_g a_g_kinds a_g_positions a_h_ad x_hoistedOfCall t_count t_interfaceSet t_supertypes m_count m_type m_name m_arity m_keys m_defaults k_count k_frozenSet k_staticType k_dynamicType k_target k_argumentCounts k_temporaryCounts k_keys k_kinds k_values k_temporaryKinds k_newKinds k_newValues d_open d_method d_family d_oldCount d_keptSet d_count d_sources d_keys d_defaults d_usedKeys g1 g2 e_counter e_temporaries e_arguments g_count g_kept g_kinds g_positions ++ hW cI cM a_h_ad g3) := hD
  refine lv_aload_n hx hb dX8_beginEdit_11 rfl (lv_at hl 0 rfl) ?_
  refine va_get (D := D) (ci := 8) (v := .ref a_d) (C := RX8) (T := TX8) (N := 6) hx hb hts hinX8 hown hKK.1 hP 0 rfl rfl 1 (by decide) lk19 (fun _ h9 => h9) rfl dX8_beginEdit_12 ?_
  obtain ⟨g4, eg4, h⟩ := bn_some h
  refine kVB (As := []) (rest := []) (st1 := []) (Bs := [B_x cI cM a_x a_x_hoistedOfCall a_o a_d a_h a_e a_g x_hoistedOfCall, B_o cI cM a_o a_t a_m a_k , B_t cI cM a_t a_t_supertypes t_count t_interfaceSet t_supertypes, B_m cI cM a_m a_m_type a_m_name a_m_arity a_m_keys a_m_defaults m_count m_type m_name m_arity m_keys m_defaults, B_k cI cM a_k a_k_staticType a_k_dynamicType a_k_target a_k_argumentCounts a_k_temporaryCounts a_k_keys a_k_kinds a_k_values a_k_temporaryKinds a_k_newKinds a_k_newValues k_count k_frozenSet k_staticType k_dynamicType k_target k_argumentCounts k_temporaryCounts k_keys k_kinds k_values k_temporaryKinds k_newKinds k_newValues, B_d cI cM a_d a_d_sources a_d_keys a_d_defaults d_open d_method d_family d_oldCount d_keptSet d_count d_sources d_keys d_defaults d_usedKeys, B_h cI cM a_h a_h_saved a_h_ad g1 g2, B_e cI cM a_e a_e_temporaries a_e_arguments e_counter e_temporaries e_arguments, B_g cI cM a_g a_g_kinds a_g_positions g_count g_kept g_kinds g_positions, hW cI cM a_h_ad g3]) (Bs1 := [B_x cI cM a_x a_x_hoistedOfCall a_o a_d a_h a_e a_g x_hoistedOfCall, B_o cI cM a_o a_t a_m a_k , B_t cI cM a_t a_t_supertypes t_count t_interfaceSet t_supertypes, B_m cI cM a_m a_m_type a_m_name a_m_arity a_m_keys a_m_defaults m_count m_type m_name m_arity m_keys m_defaults, B_k cI cM a_k a_k_staticType a_k_dynamicType a_k_target a_k_argumentCounts a_k_temporaryCounts a_k_keys a_k_kinds a_k_values a_k_temporaryKinds a_k_newKinds a_k_newValues k_count k_frozenSet k_staticType k_dynamicType k_target k_argumentCounts k_temporaryCounts k_keys k_kinds k_values k_temporaryKinds k_newKinds k_newValues, B_d cI cM a_d a_d_sources a_d_keys a_d_defaults g4 d_method d_family d_oldCount d_keptSet d_count d_sources d_keys d_defaults d_usedKeys, B_h cI cM a_h a_h_saved a_h_ad g1 g2, B_e cI cM a_e a_e_temporaries a_e_arguments e_counter e_temporaries e_arguments, B_g cI cM a_g a_g_kinds a_g_positions g_count g_kept g_kinds g_positions, hW cI cM a_h_ad g3]) SS hKK (qX1_close l D cI cM a_d a_d_sources a_d_keys a_d_defaults d_open d_method d_family d_oldCount d_keptSet d_count d_sources d_keys d_defaults d_usedKeys g4 eg4) cw258 hP hD hS (isC := [5]) (isR := [0, 1, 2, 3, 4, 6, 7, 8, 9]) (C0 := [B_d cI cM a_d a_d_sources a_d_keys a_d_defaults d_open d_method d_family d_oldCount d_keptSet d_count d_sources d_keys d_defaults d_usedKeys]) (C1 := [B_d cI cM a_d a_d_sources a_d_keys a_d_defaults g4 d_method d_family d_oldCount d_keptSet d_count d_sources d_keys d_defaults d_usedKeys]) (Rr := [B_x cI cM a_x a_x_hoistedOfCall a_o a_d a_h a_e a_g x_hoistedOfCall, B_o cI cM a_o a_t a_m a_k , B_t cI cM a_t a_t_supertypes t_count t_interfaceSet t_supertypes, B_m cI cM a_m a_m_type a_m_name a_m_arity a_m_keys a_m_defaults m_count m_type m_name m_arity m_keys m_defaults, B_k cI cM a_k a_k_staticType a_k_dynamicType a_k_target a_k_argumentCounts a_k_temporaryCounts a_k_keys a_k_kinds a_k_values a_k_temporaryKinds a_k_newKinds a_k_newValues k_count k_frozenSet k_staticType k_dynamicType k_target k_argumentCounts k_temporaryCounts k_keys k_kinds k_values k_temporaryKinds k_newKinds k_newValues, B_h cI cM a_h a_h_saved a_h_ad g1 g2, B_e cI cM a_e a_e_temporaries a_e_arguments e_counter e_temporaries e_arguments, B_g cI cM a_g a_g_kinds a_g_positions g_count g_kept g_kinds g_positions, hW cI cM a_h_ad g3]) (show (List.range 10).Perm ([5] ++ [0, 1, 2, 3, 4, 6, 7, 8, 9]) by decide) rfl rfl rfl rfl rfl rfl rfl rfl 0 1 rfl rfl rfl hl.1 rfl (Nat.le_of_ble_eq_true rfl) dX8_beginEdit_15 ⟨Nat.zero_le _, Nat.zero_le _⟩ rfl (fun H locs hP hD hS => ?_)
  have hP : va_P D vwCl (W_x_o_t_m_k_d_h_e_g cI cM a_x a_x_hoistedOfCall a_o a_t a_t_supertypes a_m a_m_type a_m_name a_m_arity a_m_keys a_m_defaults a_k a_k_staticType a_k_dynamicType a_k_target a_k_argumentCounts a_k_temporaryCounts a_k_keys a_k_kinds a_k_values a_k_temporaryKinds a_k_newKinds a_k_newValues a_d a_d_sources a_d_keys a_d_defaults a_h a_h_saved a_e a_e_temporaries a_e_arguments a_g a_g_kinds a_g_positions a_h_ad x_hoistedOfCall t_count t_interfaceSet t_supertypes m_count m_type m_name m_arity m_keys m_defaults k_count k_frozenSet k_staticType k_dynamicType k_target k_argumentCounts k_temporaryCounts k_keys k_kinds k_values k_temporaryKinds k_newKinds k_newValues g4 d_method d_family d_oldCount d_keptSet d_count d_sources d_keys d_defaults d_usedKeys g1 g2 e_counter e_temporaries e_arguments g_count g_kept g_kinds g_positions ++ hW cI cM a_h_ad g3) H := hP
  have hD : va_D _ (W_x_o_t_m_k_d_h_e_g cI cM a_x a_x_hoistedOfCall a_o a_t a_t_supertypes a_m a_m_type a_m_name a_m_arity a_m_keys a_m_defaults a_k a_k_staticType a_k_dynamicType a_k_target a_k_argumentCounts a_k_temporaryCounts a_k_keys a_k_kinds a_k_values a_k_temporaryKinds a_k_newKinds a_k_newValues a_d a_d_sources a_d_keys a_d_defaults a_h a_h_saved a_e a_e_temporaries a_e_arguments a_g a_g_kinds a_g_positions a_h_ad x_hoistedOfCall t_count t_interfaceSet t_supertypes m_count m_type m_name m_arity m_keys m_defaults k_count k_frozenSet k_staticType k_dynamicType k_target k_argumentCounts k_temporaryCounts k_keys k_kinds k_values k_temporaryKinds k_newKinds k_newValues g4 d_method d_family d_oldCount d_keptSet d_count d_sources d_keys d_defaults d_usedKeys g1 g2 e_counter e_temporaries e_arguments g_count g_kept g_kinds g_positions ++ hW cI cM a_h_ad g3) := hD
  simp only [Option.some.injEq, Prod.mk.injEq] at h
  obtain ⟨e0, e1, e2, e3⟩ := h
  exact kRetV hx hb hr hlk (by rw [← hw1, ← e0, ← e1, ← e2, ← e3]; exact hP) hS dX8_beginEdit_18
set_option maxHeartbeats 8000000 in
set_option maxRecDepth 100000 in
theorem qX8_declareType (l : Launch) (D : va_G) (cI cM : ClassId) (a_x a_x_hoistedOfCall a_o a_t a_t_supertypes a_m a_m_type a_m_name a_m_arity a_m_keys a_m_defaults a_k a_k_staticType a_k_dynamicType a_k_target a_k_argumentCounts a_k_temporaryCounts a_k_keys a_k_kinds a_k_values a_k_temporaryKinds a_k_newKinds a_k_newValues a_d a_d_sources a_d_keys a_d_defaults a_h a_h_saved a_e a_e_temporaries a_e_arguments a_g a_g_kinds a_g_positions : Nat) (a_h_ad : Nat → Nat → Nat) (x_hoistedOfCall : Nat → Int32) (t_count : Int32) (t_interfaceSet : Int32) (t_supertypes : Nat → Int32) (m_count : Int32) (m_type : Nat → Int32) (m_name : Nat → Int32) (m_arity : Nat → Int32) (m_keys : Nat → Int32) (m_defaults : Nat → Int32) (k_count : Int32) (k_frozenSet : Int32) (k_staticType : Nat → Int32) (k_dynamicType : Nat → Int32) (k_target : Nat → Int32) (k_argumentCounts : Nat → Int32) (k_temporaryCounts : Nat → Int32) (k_keys : Nat → Int32) (k_kinds : Nat → Int32) (k_values : Nat → Int32) (k_temporaryKinds : Nat → Int32) (k_newKinds : Nat → Int32) (k_newValues : Nat → Int32) (d_open : Int32) (d_method : Int32) (d_family : Int32) (d_oldCount : Int32) (d_keptSet : Int32) (d_count : Int32) (d_sources : Nat → Int32) (d_keys : Nat → Int32) (d_defaults : Nat → Int32) (d_usedKeys : Int32) (h_count : Int32) (h_next : Int32) (e_counter : Int32) (e_temporaries : Nat → Int32) (e_arguments : Nat → Int32) (g_count : Int32) (g_kept : Int32) (g_kinds : Nat → Int32) (g_positions : Nat → Int32) (h_hs : Nat → MS) (x1 : Int32) (x2 : Int32) (x3 : Int32) (r : Int32) (r_t_count : Int32) (r_t_interfaceSet : Int32) (r_t_supertypes : Nat → Int32) (r_d_open : Int32) (r_h_count : Int32) (r_h_next : Int32) (r_h_hs : Nat → MS) (h : fX8_declareType t_count t_interfaceSet t_supertypes m_count m_type m_name m_arity m_keys m_defaults k_count k_frozenSet k_staticType k_dynamicType k_target k_argumentCounts k_temporaryCounts k_keys k_kinds k_values k_temporaryKinds k_newKinds k_newValues d_open h_count h_next h_hs x1 x2 x3 = some (r, r_t_count, r_t_interfaceSet, r_t_supertypes, r_d_open, r_h_count, r_h_next, r_h_hs)) : IM l yX8_declareType wsX8_declareType rmX8_declareType D cI cM [.ref a_x, .int x1, .int x2, .int x3] (W_x_o_t_m_k_d_h_e_g cI cM a_x a_x_hoistedOfCall a_o a_t a_t_supertypes a_m a_m_type a_m_name a_m_arity a_m_keys a_m_defaults a_k a_k_staticType a_k_dynamicType a_k_target a_k_argumentCounts a_k_temporaryCounts a_k_keys a_k_kinds a_k_values a_k_temporaryKinds a_k_newKinds a_k_newValues a_d a_d_sources a_d_keys a_d_defaults a_h a_h_saved a_e a_e_temporaries a_e_arguments a_g a_g_kinds a_g_positions a_h_ad x_hoistedOfCall t_count t_interfaceSet t_supertypes m_count m_type m_name m_arity m_keys m_defaults k_count k_frozenSet k_staticType k_dynamicType k_target k_argumentCounts k_temporaryCounts k_keys k_kinds k_values k_temporaryKinds k_newKinds k_newValues d_open d_method d_family d_oldCount d_keptSet d_count d_sources d_keys d_defaults d_usedKeys h_count h_next e_counter e_temporaries e_arguments g_count g_kept g_kinds g_positions ++ hW cI cM a_h_ad h_hs) (W_x_o_t_m_k_d_h_e_g cI cM a_x a_x_hoistedOfCall a_o a_t a_t_supertypes a_m a_m_type a_m_name a_m_arity a_m_keys a_m_defaults a_k a_k_staticType a_k_dynamicType a_k_target a_k_argumentCounts a_k_temporaryCounts a_k_keys a_k_kinds a_k_values a_k_temporaryKinds a_k_newKinds a_k_newValues a_d a_d_sources a_d_keys a_d_defaults a_h a_h_saved a_e a_e_temporaries a_e_arguments a_g a_g_kinds a_g_positions a_h_ad x_hoistedOfCall r_t_count r_t_interfaceSet r_t_supertypes m_count m_type m_name m_arity m_keys m_defaults k_count k_frozenSet k_staticType k_dynamicType k_target k_argumentCounts k_temporaryCounts k_keys k_kinds k_values k_temporaryKinds k_newKinds k_newValues r_d_open d_method d_family d_oldCount d_keptSet d_count d_sources d_keys d_defaults d_usedKeys r_h_count r_h_next e_counter e_temporaries e_arguments g_count g_kept g_kinds g_positions ++ hW cI cM a_h_ad r_h_hs) (some (.int r)) := by
  refine IM.of (cc := cX8_declareType) (maxL := 6) (ret := (some .int)) (by decide) rfl (Nat.le_of_ble_eq_true rfl) ?_
  intro p e s m below meth c ls hx hb hr hml hown hts hlk hKK hP hD hS hl
  have hown : s.vm.findClass RX8 = some m.cls := hown
  have hl : lv_has ls 6 [(0, .ref a_x), (1, .int x1), (2, .int x2), (3, .int x3)] := hl
  generalize hav : ([.ref a_x, .int x1, .int x2, .int x3] : List Value) = av at hts ⊢
  generalize hw1 : W_x_o_t_m_k_d_h_e_g cI cM a_x a_x_hoistedOfCall a_o a_t a_t_supertypes a_m a_m_type a_m_name a_m_arity a_m_keys a_m_defaults a_k a_k_staticType a_k_dynamicType a_k_target a_k_argumentCounts a_k_temporaryCounts a_k_keys a_k_kinds a_k_values a_k_temporaryKinds a_k_newKinds a_k_newValues a_d a_d_sources a_d_keys a_d_defaults a_h a_h_saved a_e a_e_temporaries a_e_arguments a_g a_g_kinds a_g_positions a_h_ad x_hoistedOfCall r_t_count r_t_interfaceSet r_t_supertypes m_count m_type m_name m_arity m_keys m_defaults k_count k_frozenSet k_staticType k_dynamicType k_target k_argumentCounts k_temporaryCounts k_keys k_kinds k_values k_temporaryKinds k_newKinds k_newValues r_d_open d_method d_family d_oldCount d_keptSet d_count d_sources d_keys d_defaults d_usedKeys r_h_count r_h_next e_counter e_temporaries e_arguments g_count g_kept g_kinds g_positions ++ hW cI cM a_h_ad r_h_hs = w1
  generalize hw0 : W_x_o_t_m_k_d_h_e_g cI cM a_x a_x_hoistedOfCall a_o a_t a_t_supertypes a_m a_m_type a_m_name a_m_arity a_m_keys a_m_defaults a_k a_k_staticType a_k_dynamicType a_k_target a_k_argumentCounts a_k_temporaryCounts a_k_keys a_k_kinds a_k_values a_k_temporaryKinds a_k_newKinds a_k_newValues a_d a_d_sources a_d_keys a_d_defaults a_h a_h_saved a_e a_e_temporaries a_e_arguments a_g a_g_kinds a_g_positions a_h_ad x_hoistedOfCall t_count t_interfaceSet t_supertypes m_count m_type m_name m_arity m_keys m_defaults k_count k_frozenSet k_staticType k_dynamicType k_target k_argumentCounts k_temporaryCounts k_keys k_kinds k_values k_temporaryKinds k_newKinds k_newValues d_open d_method d_family d_oldCount d_keptSet d_count d_sources d_keys d_defaults d_usedKeys h_count h_next e_counter e_temporaries e_arguments g_count g_kept g_kinds g_positions ++ hW cI cM a_h_ad h_hs = w0 at hD hS ⊢
  have hP : va_P D vwCl (W_x_o_t_m_k_d_h_e_g cI cM a_x a_x_hoistedOfCall a_o a_t a_t_supertypes a_m a_m_type a_m_name a_m_arity a_m_keys a_m_defaults a_k a_k_staticType a_k_dynamicType a_k_target a_k_argumentCounts a_k_temporaryCounts a_k_keys a_k_kinds a_k_values a_k_temporaryKinds a_k_newKinds a_k_newValues a_d a_d_sources a_d_keys a_d_defaults a_h a_h_saved a_e a_e_temporaries a_e_arguments a_g a_g_kinds a_g_positions a_h_ad x_hoistedOfCall t_count t_interfaceSet t_supertypes m_count m_type m_name m_arity m_keys m_defaults k_count k_frozenSet k_staticType k_dynamicType k_target k_argumentCounts k_temporaryCounts k_keys k_kinds k_values k_temporaryKinds k_newKinds k_newValues d_open d_method d_family d_oldCount d_keptSet d_count d_sources d_keys d_defaults d_usedKeys h_count h_next e_counter e_temporaries e_arguments g_count g_kept g_kinds g_positions ++ hW cI cM a_h_ad h_hs) s.heap := hP
  have hD : va_D (fun q => q ∈ w0.map (·.1)) (W_x_o_t_m_k_d_h_e_g cI cM a_x a_x_hoistedOfCall a_o a_t a_t_supertypes a_m a_m_type a_m_name a_m_arity a_m_keys a_m_defaults a_k a_k_staticType a_k_dynamicType a_k_target a_k_argumentCounts a_k_temporaryCounts a_k_keys a_k_kinds a_k_values a_k_temporaryKinds a_k_newKinds a_k_newValues a_d a_d_sources a_d_keys a_d_defaults a_h a_h_saved a_e a_e_temporaries a_e_arguments a_g a_g_kinds a_g_positions a_h_ad x_hoistedOfCall t_count t_interfaceSet t_supertypes m_count m_type m_name m_arity m_keys m_defaults k_count k_frozenSet k_staticType k_dynamicType k_target k_argumentCounts k_temporaryCounts k_keys k_kinds k_values k_temporaryKinds k_newKinds k_newValues d_open d_method d_family d_oldCount d_keptSet d_count d_sources d_keys d_defaults d_usedKeys h_count h_next e_counter e_temporaries e_arguments g_count g_kept g_kinds g_positions ++ hW cI cM a_h_ad h_hs) := by rw [hw0]; exact hD
  have SS : CallFix p m c cX8_declareType 6 s av.toArray wsX8_declareType RX8 := ⟨hx, hb, hml, hown, hts⟩
  have hinX6 : ∀ w ∈ u_ws RX6 TX6 3, w ∈ wsX8_declareType := by decide +kernel
  have hinX7 : ∀ w ∈ u_ws RX7 TX7 3, w ∈ wsX8_declareType := by decide +kernel
  have hinX8 : ∀ w ∈ u_ws RX8 TX8 6, w ∈ wsX8_declareType := by decide +kernel
  have lk10 := hts (.fieldLink RX8 10 "SignatureChanger" "model" "LSignatureChanger$Model;") (List.mem_of_getElem? (i := 1) rfl)
  have lk48 := hts (.fieldLink RX8 48 "SignatureChanger$Model" "types" "LSignatureChanger$Types;") (List.mem_of_getElem? (i := 2) rfl)
  have lk66 := hts (.fieldLink RX8 66 "SignatureChanger$Model" "methods" "LSignatureChanger$Methods;") (List.mem_of_getElem? (i := 3) rfl)
  have lk75 := hts (.fieldLink RX8 75 "SignatureChanger$Types" "count" "I") (List.mem_of_getElem? (i := 4) rfl)
  have cw52 : CallW rmX8_declareType s av.toArray RX8 RX7 52 yX7_allowsSuperclass cX7_allowsSuperclass 3 (some .boolean) wsX7_allowsSuperclass rmX7_allowsSuperclass 0 0 2 := cwV 2 hts gX8_declareType_X7_allowsSuperclass rfl rfl rfl (by decide +kernel) ⟨Nat.le_of_ble_eq_true rfl, Nat.le_of_ble_eq_true rfl⟩
  have cw58 : CallW rmX8_declareType s av.toArray RX8 RX7 58 yX7_areInterfaces cX7_areInterfaces 2 (some .boolean) wsX7_areInterfaces rmX7_areInterfaces 0 0 1 := cwV 1 hts gX8_declareType_X7_areInterfaces rfl rfl rfl (by decide +kernel) ⟨Nat.le_of_ble_eq_true rfl, Nat.le_of_ble_eq_true rfl⟩
  have cw62 : CallW rmX8_declareType s av.toArray RX8 RX7 62 yX7_inheritedFrom cX7_inheritedFrom 5 (some .int) wsX7_inheritedFrom rmX7_inheritedFrom 0 0 2 := cwV 2 hts gX8_declareType_X7_inheritedFrom rfl rfl rfl (by decide +kernel) ⟨Nat.le_of_ble_eq_true rfl, Nat.le_of_ble_eq_true rfl⟩
  have cw70 : CallW rmX8_declareType s av.toArray RX8 RX5 70 yX5_disagreeWithin cX5_disagreeWithin 4 (some .boolean) wsX5_disagreeWithin rmX5_disagreeWithin 0 0 1 := cwV 1 hts gX8_declareType_X5_disagreeWithin rfl rfl rfl (by decide +kernel) ⟨Nat.le_of_ble_eq_true rfl, Nat.le_of_ble_eq_true rfl⟩
  have cw79 : CallW rmX8_declareType s av.toArray RX8 RX8 79 yX8_beginEdit cX8_beginEdit 1 none wsX8_beginEdit rmX8_beginEdit 0 0 0 := cwV 0 hts gX8_declareType_X8_beginEdit rfl rfl rfl (by decide +kernel) ⟨Nat.le_of_ble_eq_true rfl, Nat.le_of_ble_eq_true rfl⟩
  have cw82 : CallW rmX8_declareType s av.toArray RX8 RX7 82 yX7_add cX7_add 4 (some .int) wsX7_add rmX7_add 0 0 2 := cwV 2 hts gX8_declareType_X7_add rfl rfl rfl (by decide +kernel) ⟨Nat.le_of_ble_eq_true rfl, Nat.le_of_ble_eq_true rfl⟩
  unfold fX8_declareType at h
  refine lv_aload_n hx hb dX8_declareType_0 rfl (lv_at hl 0 rfl) ?_
  refine va_get (D := D) (ci := 8) (v := .ref a_o) (C := RX8) (T := TX8) (N := 6) hx hb hts hinX8 hown hKK.1 hP 0 rfl rfl 0 (by decide) lk10 (fun _ h9 => h9) rfl dX8_declareType_1 ?_
  refine va_get (D := D) (ci := 6) (v := .ref a_t) (C := RX6) (T := TX6) (N := 3) hx hb hts hinX6 hown hKK.1 hP 2 rfl rfl 0 (by decide) lk48 (fun _ h9 => h9) rfl dX8_declareType_4 ?_
  refine lv_astore (lv' := [(4, .ref a_t), (0, .ref a_x), (1, .int x1), (2, .int x2), (3, .int x3)]) hx hb dX8_declareType_7 hl (by decide) rfl (fun ls hl => ?_)
  refine lv_aload hx hb dX8_declareType_9 (lv_at hl 0 rfl) ?_
  refine lv_iload_n hx hb dX8_declareType_11 rfl (lv_at hl 2 rfl) ?_
  refine lv_iload_n hx hb dX8_declareType_12 rfl (lv_at hl 3 rfl) ?_
  obtain ⟨v1, ev1, h⟩ := bn_some h
  have hs2 : va_P D vwCl (W_t cI cM a_t a_t_supertypes t_count t_interfaceSet t_supertypes) _ := blkP (Bs := [B_x cI cM a_x a_x_hoistedOfCall a_o a_d a_h a_e a_g x_hoistedOfCall, B_o cI cM a_o a_t a_m a_k , B_t cI cM a_t a_t_supertypes t_count t_interfaceSet t_supertypes, B_m cI cM a_m a_m_type a_m_name a_m_arity a_m_keys a_m_defaults m_count m_type m_name m_arity m_keys m_defaults, B_k cI cM a_k a_k_staticType a_k_dynamicType a_k_target a_k_argumentCounts a_k_temporaryCounts a_k_keys a_k_kinds a_k_values a_k_temporaryKinds a_k_newKinds a_k_newValues k_count k_frozenSet k_staticType k_dynamicType k_target k_argumentCounts k_temporaryCounts k_keys k_kinds k_values k_temporaryKinds k_newKinds k_newValues, B_d cI cM a_d a_d_sources a_d_keys a_d_defaults d_open d_method d_family d_oldCount d_keptSet d_count d_sources d_keys d_defaults d_usedKeys, B_h cI cM a_h a_h_saved a_h_ad h_count h_next, B_e cI cM a_e a_e_temporaries a_e_arguments e_counter e_temporaries e_arguments, B_g cI cM a_g a_g_kinds a_g_positions g_count g_kept g_kinds g_positions, hW cI cM a_h_ad h_hs]) hP [2] (C0 := [B_t cI cM a_t a_t_supertypes t_count t_interfaceSet t_supertypes]) rfl rfl
  refine kV (As := [.int x1, .int x2]) (rest := []) SS hKK (qX7_allowsSuperclass l D cI cM a_t a_t_supertypes t_count t_interfaceSet t_supertypes x1 x2 v1 ev1) cw52 hs2 0 7 rfl rfl rfl hl.1 rfl (Nat.le_of_ble_eq_true rfl) dX8_declareType_13 ⟨Nat.zero_le _, Nat.zero_le _⟩ ?_
  refine lv_if_eq (tgt := 28) hx hb dX8_declareType_16 (by decide) (fun c3 => ?_) (fun c3 => ?_)
  · have h := ifp h c3
    refine lv_iconst (v := (-1)) hx hb dX8_declareType_28 (by decide) ?_
    simp only [Option.some.injEq, Prod.mk.injEq] at h
    obtain ⟨e0, e1, e2, e3, e4, e5, e6, e7⟩ := h
    exact kRetI hx hb hr hlk e0 (by rw [← hw1, ← e1, ← e2, ← e3, ← e4, ← e5, ← e6, ← e7]; exact hP) hS dX8_declareType_29
  · have h := ifn h c3
    refine lv_aload hx hb dX8_declareType_19 (lv_at hl 0 rfl) ?_
    refine lv_iload_n hx hb dX8_declareType_21 rfl (lv_at hl 4 rfl) ?_
    obtain ⟨v4, ev4, h⟩ := bn_some h
    refine kV (As := [.int x3]) (rest := []) SS hKK (qX7_areInterfaces l D cI cM a_t a_t_supertypes t_count t_interfaceSet t_supertypes x3 v4 ev4) cw58 hs2 0 7 rfl rfl rfl hl.1 rfl (Nat.le_of_ble_eq_true rfl) dX8_declareType_22 ⟨Nat.zero_le _, Nat.zero_le _⟩ ?_
    refine lv_if_ne (tgt := 30) hx hb dX8_declareType_25 (by decide) (fun c5 => ?_) (fun c5 => ?_)
    · have h := ifn h c5
      refine lv_aload hx hb dX8_declareType_30 (lv_at hl 0 rfl) ?_
      refine lv_iload_n hx hb dX8_declareType_32 rfl (lv_at hl 3 rfl) ?_
      refine lv_iload_n hx hb dX8_declareType_33 rfl (lv_at hl 4 rfl) ?_
      obtain ⟨v6, ev6, h⟩ := bn_some h
      refine kV (As := [.int x2, .int x3]) (rest := []) SS hKK (qX7_inheritedFrom l D cI cM a_t a_t_supertypes t_count t_interfaceSet t_supertypes x2 x3 v6 ev6) cw62 hs2 0 7 rfl rfl rfl hl.1 rfl (Nat.le_of_ble_eq_true rfl) dX8_declareType_34 ⟨Nat.zero_le _, Nat.zero_le _⟩ ?_
      refine lv_istore (lv' := [(5, .int v6), (4, .ref a_t), (0, .ref a_x), (1, .int x1), (2, .int x2), (3, .int x3)]) hx hb dX8_declareType_37 hl (by decide) rfl (fun ls hl => ?_)
      refine lv_aload_n hx hb dX8_declareType_39 rfl (lv_at hl 2 rfl) ?_
      refine va_get (D := D) (ci := 8) (v := .ref a_o) (C := RX8) (T := TX8) (N := 6) hx hb hts hinX8 hown hKK.1 hP 0 rfl rfl 0 (by decide) lk10 (fun _ h9 => h9) rfl dX8_declareType_40 ?_
      refine va_get (D := D) (ci := 6) (v := .ref a_m) (C := RX6) (T := TX6) (N := 3) hx hb hts hinX6 hown hKK.1 hP 2 rfl rfl 1 (by decide) lk66 (fun _ h9 => h9) rfl dX8_declareType_43 ?_
      refine lv_iload hx hb dX8_declareType_46 (lv_at hl 0 rfl) ?_
      obtain ⟨v7, ev7, h⟩ := bn_some h
      have hs8 : va_P D vwCl (W_m cI cM a_m a_m_type a_m_name a_m_arity a_m_keys a_m_defaults m_count m_type m_name m_arity m_keys m_defaults) _ := blkP (Bs := [B_x cI cM a_x a_x_hoistedOfCall a_o a_d a_h a_e a_g x_hoistedOfCall, B_o cI cM a_o a_t a_m a_k , B_t cI cM a_t a_t_supertypes t_count t_interfaceSet t_supertypes, B_m cI cM a_m a_m_type a_m_name a_m_arity a_m_keys a_m_defaults m_count m_type m_name m_arity m_keys m_defaults, B_k cI cM a_k a_k_staticType a_k_dynamicType a_k_target a_k_argumentCounts a_k_temporaryCounts a_k_keys a_k_kinds a_k_values a_k_temporaryKinds a_k_newKinds a_k_newValues k_count k_frozenSet k_staticType k_dynamicType k_target k_argumentCounts k_temporaryCounts k_keys k_kinds k_values k_temporaryKinds k_newKinds k_newValues, B_d cI cM a_d a_d_sources a_d_keys a_d_defaults d_open d_method d_family d_oldCount d_keptSet d_count d_sources d_keys d_defaults d_usedKeys, B_h cI cM a_h a_h_saved a_h_ad h_count h_next, B_e cI cM a_e a_e_temporaries a_e_arguments e_counter e_temporaries e_arguments, B_g cI cM a_g a_g_kinds a_g_positions g_count g_kept g_kinds g_positions, hW cI cM a_h_ad h_hs]) hP [3] (C0 := [B_m cI cM a_m a_m_type a_m_name a_m_arity a_m_keys a_m_defaults m_count m_type m_name m_arity m_keys m_defaults]) rfl rfl
      refine kV (As := [.int v6]) (rest := []) SS hKK (qX5_disagreeWithin l D cI cM a_m a_m_type a_m_name a_m_arity a_m_keys a_m_defaults m_count m_type m_name m_arity m_keys m_defaults v6 v7 ev7) cw70 hs8 0 5 rfl rfl rfl hl.1 rfl (Nat.le_of_ble_eq_true rfl) dX8_declareType_48 ⟨Nat.zero_le _, Nat.zero_le _⟩ ?_
      refine lv_if_eq (tgt := 57) hx hb dX8_declareType_51 (by decide) (fun c9 => ?_) (fun c9 => ?_)
      · have h := ifp h c9
        refine lv_aload hx hb dX8_declareType_57 (lv_at hl 1 rfl) ?_
        refine va_get (D := D) (ci := 7) (v := .int t_count) (C := RX7) (T := TX7) (N := 3) hx hb hts hinX7 hown hKK.1 hP 3 rfl rfl 0 (by decide) lk75 (fun _ h9 => h9) rfl dX8_declareType_59 ?_
        refine lv_bipush (v := 8) hx hb dX8_declareType_62 (by decide) ?_
        refine lv_icmp_lt (tgt := 70) hx hb dX8_declareType_64 (by decide) (fun c10 => ?_) (fun c10 => ?_)
        · have h := ifp h c10
          refine lv_aload_n hx hb dX8_declareType_70 rfl (lv_at hl 2 rfl) ?_
          obtain ⟨g11, g12, g13, g14, eg11, h⟩ := bn4_some h
          refine kVB (As := []) (rest := []) (st1 := []) (Bs := [B_x cI cM a_x a_x_hoistedOfCall a_o a_d a_h a_e a_g x_hoistedOfCall, B_o cI cM a_o a_t a_m a_k , B_t cI cM a_t a_t_supertypes t_count t_interfaceSet t_supertypes, B_m cI cM a_m a_m_type a_m_name a_m_arity a_m_keys a_m_defaults m_count m_type m_name m_arity m_keys m_defaults, B_k cI cM a_k a_k_staticType a_k_dynamicType a_k_target a_k_argumentCounts a_k_temporaryCounts a_k_keys a_k_kinds a_k_values a_k_temporaryKinds a_k_newKinds a_k_newValues k_count k_frozenSet k_staticType k_dynamicType k_target k_argumentCounts k_temporaryCounts k_keys k_kinds k_values k_temporaryKinds k_newKinds k_newValues, B_d cI cM a_d a_d_sources a_d_keys a_d_defaults d_open d_method d_family d_oldCount d_keptSet d_count d_sources d_keys d_defaults d_usedKeys, B_h cI cM a_h a_h_saved a_h_ad h_count h_next, B_e cI cM a_e a_e_temporaries a_e_arguments e_counter e_temporaries e_arguments, B_g cI cM a_g a_g_kinds a_g_positions g_count g_kept g_kinds g_positions, hW cI cM a_h_ad h_hs]) (Bs1 := [B_x cI cM a_x a_x_hoistedOfCall a_o a_d a_h a_e a_g x_hoistedOfCall, B_o cI cM a_o a_t a_m a_k , B_t cI cM a_t a_t_supertypes t_count t_interfaceSet t_supertypes, B_m cI cM a_m a_m_type a_m_name a_m_arity a_m_keys a_m_defaults m_count m_type m_name m_arity m_keys m_defaults, B_k cI cM a_k a_k_staticType a_k_dynamicType a_k_target a_k_argumentCounts a_k_temporaryCounts a_k_keys a_k_kinds a_k_values a_k_temporaryKinds a_k_newKinds a_k_newValues k_count k_frozenSet k_staticType k_dynamicType k_target k_argumentCounts k_temporaryCounts k_keys k_kinds k_values k_temporaryKinds k_newKinds k_newValues, B_d cI cM a_d a_d_sources a_d_keys a_d_defaults g11 d_method d_family d_oldCount d_keptSet d_count d_sources d_keys d_defaults d_usedKeys, B_h cI cM a_h a_h_saved a_h_ad g12 g13, B_e cI cM a_e a_e_temporaries a_e_arguments e_counter e_temporaries e_arguments, B_g cI cM a_g a_g_kinds a_g_positions g_count g_kept g_kinds g_positions, hW cI cM a_h_ad g14]) SS hKK (qX8_beginEdit l D cI cM a_x a_x_hoistedOfCall a_o a_t a_t_supertypes a_m a_m_type a_m_name a_m_arity a_m_keys a_m_defaults a_k a_k_staticType a_k_dynamicType a_k_target a_k_argumentCounts a_k_temporaryCounts a_k_keys a_k_kinds a_k_values a_k_temporaryKinds a_k_newKinds a_k_newValues a_d a_d_sources a_d_keys a_d_defaults a_h a_h_saved a_e a_e_temporaries a_e_arguments a_g a_g_kinds a_g_positions a_h_ad x_hoistedOfCall t_count t_interfaceSet t_supertypes m_count m_type m_name m_arity m_keys m_defaults k_count k_frozenSet k_staticType k_dynamicType k_target k_argumentCounts k_temporaryCounts k_keys k_kinds k_values k_temporaryKinds k_newKinds k_newValues d_open d_method d_family d_oldCount d_keptSet d_count d_sources d_keys d_defaults d_usedKeys h_count h_next e_counter e_temporaries e_arguments g_count g_kept g_kinds g_positions h_hs g11 g12 g13 g14 eg11) cw79 hP hD hS (isC := [0, 1, 2, 3, 4, 5, 6, 7, 8, 9]) (isR := []) (C0 := [B_x cI cM a_x a_x_hoistedOfCall a_o a_d a_h a_e a_g x_hoistedOfCall, B_o cI cM a_o a_t a_m a_k , B_t cI cM a_t a_t_supertypes t_count t_interfaceSet t_supertypes, B_m cI cM a_m a_m_type a_m_name a_m_arity a_m_keys a_m_defaults m_count m_type m_name m_arity m_keys m_defaults, B_k cI cM a_k a_k_staticType a_k_dynamicType a_k_target a_k_argumentCounts a_k_temporaryCounts a_k_keys a_k_kinds a_k_values a_k_temporaryKinds a_k_newKinds a_k_newValues k_count k_frozenSet k_staticType k_dynamicType k_target k_argumentCounts k_temporaryCounts k_keys k_kinds k_values k_temporaryKinds k_newKinds k_newValues, B_d cI cM a_d a_d_sources a_d_keys a_d_defaults d_open d_method d_family d_oldCount d_keptSet d_count d_sources d_keys d_defaults d_usedKeys, B_h cI cM a_h a_h_saved a_h_ad h_count h_next, B_e cI cM a_e a_e_temporaries a_e_arguments e_counter e_temporaries e_arguments, B_g cI cM a_g a_g_kinds a_g_positions g_count g_kept g_kinds g_positions, hW cI cM a_h_ad h_hs]) (C1 := [B_x cI cM a_x a_x_hoistedOfCall a_o a_d a_h a_e a_g x_hoistedOfCall, B_o cI cM a_o a_t a_m a_k , B_t cI cM a_t a_t_supertypes t_count t_interfaceSet t_supertypes, B_m cI cM a_m a_m_type a_m_name a_m_arity a_m_keys a_m_defaults m_count m_type m_name m_arity m_keys m_defaults, B_k cI cM a_k a_k_staticType a_k_dynamicType a_k_target a_k_argumentCounts a_k_temporaryCounts a_k_keys a_k_kinds a_k_values a_k_temporaryKinds a_k_newKinds a_k_newValues k_count k_frozenSet k_staticType k_dynamicType k_target k_argumentCounts k_temporaryCounts k_keys k_kinds k_values k_temporaryKinds k_newKinds k_newValues, B_d cI cM a_d a_d_sources a_d_keys a_d_defaults g11 d_method d_family d_oldCount d_keptSet d_count d_sources d_keys d_defaults d_usedKeys, B_h cI cM a_h a_h_saved a_h_ad g12 g13, B_e cI cM a_e a_e_temporaries a_e_arguments e_counter e_temporaries e_arguments, B_g cI cM a_g a_g_kinds a_g_positions g_count g_kept g_kinds g_positions, hW cI cM a_h_ad g14]) (Rr := []) (show (List.range 10).Perm ([0, 1, 2, 3, 4, 5, 6, 7, 8, 9] ++ []) by decide) rfl rfl rfl rfl rfl rfl rfl (hW_addr rfl) 0 8 rfl rfl rfl hl.1 rfl (Nat.le_of_ble_eq_true rfl) dX8_declareType_71 ⟨Nat.zero_le _, Nat.zero_le _⟩ rfl (fun H locs hP hD hS => ?_)
          have hP : va_P D vwCl (W_x_o_t_m_k_d_h_e_g cI cM a_x a_x_hoistedOfCall a_o a_t a_t_supertypes a_m a_m_type a_m_name a_m_arity a_m_keys a_m_defaults a_k a_k_staticType a_k_dynamicType a_k_target a_k_argumentCounts a_k_temporaryCounts a_k_keys a_k_kinds a_k_values a_k_temporaryKinds a_k_newKinds a_k_newValues a_d a_d_sources a_d_keys a_d_defaults a_h a_h_saved a_e a_e_temporaries a_e_arguments a_g a_g_kinds a_g_positions a_h_ad x_hoistedOfCall t_count t_interfaceSet t_supertypes m_count m_type m_name m_arity m_keys m_defaults k_count k_frozenSet k_staticType k_dynamicType k_target k_argumentCounts k_temporaryCounts k_keys k_kinds k_values k_temporaryKinds k_newKinds k_newValues g11 d_method d_family d_oldCount d_keptSet d_count d_sources d_keys d_defaults d_usedKeys g12 g13 e_counter e_temporaries e_arguments g_count g_kept g_kinds g_positions ++ hW cI cM a_h_ad g14) H := hP
          have hD : va_D _ (W_x_o_t_m_k_d_h_e_g cI cM a_x a_x_hoistedOfCall a_o a_t a_t_supertypes a_m a_m_type a_m_name a_m_arity a_m_keys a_m_defaults a_k a_k_staticType a_k_dynamicType a_k_target a_k_argumentCounts a_k_temporaryCounts a_k_keys a_k_kinds a_k_values a_k_temporaryKinds a_k_newKinds a_k_newValues a_d a_d_sources a_d_keys a_d_defaults a_h a_h_saved a_e a_e_temporaries a_e_arguments a_g a_g_kinds a_g_positions a_h_ad x_hoistedOfCall t_count t_interfaceSet t_supertypes m_count m_type m_name m_arity m_keys m_defaults k_count k_frozenSet k_staticType k_dynamicType k_target k_argumentCounts k_temporaryCounts k_keys k_kinds k_values k_temporaryKinds k_newKinds k_newValues g11 d_method d_family d_oldCount d_keptSet d_count d_sources d_keys d_defaults d_usedKeys g12 g13 e_counter e_temporaries e_arguments g_count g_kept g_kinds g_positions ++ hW cI cM a_h_ad g14) := hD
          refine lv_aload hx hb dX8_declareType_74 (lv_at hl 1 rfl) ?_
          refine lv_iload_n hx hb dX8_declareType_76 rfl (lv_at hl 3 rfl) ?_
          refine lv_iload hx hb dX8_declareType_77 (lv_at hl 0 rfl) ?_
          obtain ⟨v15, g16, g17, g18, ev15, h⟩ := bn4_some h
          refine kVB (As := [.int x1, .int v6]) (rest := []) (st1 := [.int v15]) (Bs := [B_x cI cM a_x a_x_hoistedOfCall a_o a_d a_h a_e a_g x_hoistedOfCall, B_o cI cM a_o a_t a_m a_k , B_t cI cM a_t a_t_supertypes t_count t_interfaceSet t_supertypes, B_m cI cM a_m a_m_type a_m_name a_m_arity a_m_keys a_m_defaults m_count m_type m_name m_arity m_keys m_defaults, B_k cI cM a_k a_k_staticType a_k_dynamicType a_k_target a_k_argumentCounts a_k_temporaryCounts a_k_keys a_k_kinds a_k_values a_k_temporaryKinds a_k_newKinds a_k_newValues k_count k_frozenSet k_staticType k_dynamicType k_target k_argumentCounts k_temporaryCounts k_keys k_kinds k_values k_temporaryKinds k_newKinds k_newValues, B_d cI cM a_d a_d_sources a_d_keys a_d_defaults g11 d_method d_family d_oldCount d_keptSet d_count d_sources d_keys d_defaults d_usedKeys, B_h cI cM a_h a_h_saved a_h_ad g12 g13, B_e cI cM a_e a_e_temporaries a_e_arguments e_counter e_temporaries e_arguments, B_g cI cM a_g a_g_kinds a_g_positions g_count g_kept g_kinds g_positions, hW cI cM a_h_ad g14]) (Bs1 := [B_x cI cM a_x a_x_hoistedOfCall a_o a_d a_h a_e a_g x_hoistedOfCall, B_o cI cM a_o a_t a_m a_k , B_t cI cM a_t a_t_supertypes g16 g17 g18, B_m cI cM a_m a_m_type a_m_name a_m_arity a_m_keys a_m_defaults m_count m_type m_name m_arity m_keys m_defaults, B_k cI cM a_k a_k_staticType a_k_dynamicType a_k_target a_k_argumentCounts a_k_temporaryCounts a_k_keys a_k_kinds a_k_values a_k_temporaryKinds a_k_newKinds a_k_newValues k_count k_frozenSet k_staticType k_dynamicType k_target k_argumentCounts k_temporaryCounts k_keys k_kinds k_values k_temporaryKinds k_newKinds k_newValues, B_d cI cM a_d a_d_sources a_d_keys a_d_defaults g11 d_method d_family d_oldCount d_keptSet d_count d_sources d_keys d_defaults d_usedKeys, B_h cI cM a_h a_h_saved a_h_ad g12 g13, B_e cI cM a_e a_e_temporaries a_e_arguments e_counter e_temporaries e_arguments, B_g cI cM a_g a_g_kinds a_g_positions g_count g_kept g_kinds g_positions, hW cI cM a_h_ad g14]) SS hKK (qX7_add l D cI cM a_t a_t_supertypes t_count t_interfaceSet t_supertypes x1 v6 v15 g16 g17 g18 ev15) cw82 hP hD hS (isC := [2]) (isR := [0, 1, 3, 4, 5, 6, 7, 8, 9]) (C0 := [B_t cI cM a_t a_t_supertypes t_count t_interfaceSet t_supertypes]) (C1 := [B_t cI cM a_t a_t_supertypes g16 g17 g18]) (Rr := [B_x cI cM a_x a_x_hoistedOfCall a_o a_d a_h a_e a_g x_hoistedOfCall, B_o cI cM a_o a_t a_m a_k , B_m cI cM a_m a_m_type a_m_name a_m_arity a_m_keys a_m_defaults m_count m_type m_name m_arity m_keys m_defaults, B_k cI cM a_k a_k_staticType a_k_dynamicType a_k_target a_k_argumentCounts a_k_temporaryCounts a_k_keys a_k_kinds a_k_values a_k_temporaryKinds a_k_newKinds a_k_newValues k_count k_frozenSet k_staticType k_dynamicType k_target k_argumentCounts k_temporaryCounts k_keys k_kinds k_values k_temporaryKinds k_newKinds k_newValues, B_d cI cM a_d a_d_sources a_d_keys a_d_defaults g11 d_method d_family d_oldCount d_keptSet d_count d_sources d_keys d_defaults d_usedKeys, B_h cI cM a_h a_h_saved a_h_ad g12 g13, B_e cI cM a_e a_e_temporaries a_e_arguments e_counter e_temporaries e_arguments, B_g cI cM a_g a_g_kinds a_g_positions g_count g_kept g_kinds g_positions, hW cI cM a_h_ad g14]) (show (List.range 10).Perm ([2] ++ [0, 1, 3, 4, 5, 6, 7, 8, 9]) by decide) rfl rfl rfl rfl rfl rfl rfl rfl 0 7 rfl rfl rfl hl.1 rfl (Nat.le_of_ble_eq_true rfl) dX8_declareType_79 ⟨Nat.zero_le _, Nat.zero_le _⟩ rfl (fun H locs hP hD hS => ?_)
          have hP : va_P D vwCl (W_x_o_t_m_k_d_h_e_g cI cM a_x a_x_hoistedOfCall a_o a_t a_t_supertypes a_m a_m_type a_m_name a_m_arity a_m_keys a_m_defaults a_k a_k_staticType a_k_dynamicType a_k_target a_k_argumentCounts a_k_temporaryCounts a_k_keys a_k_kinds a_k_values a_k_temporaryKinds a_k_newKinds a_k_newValues a_d a_d_sources a_d_keys a_d_defaults a_h a_h_saved a_e a_e_temporaries a_e_arguments a_g a_g_kinds a_g_positions a_h_ad x_hoistedOfCall g16 g17 g18 m_count m_type m_name m_arity m_keys m_defaults k_count k_frozenSet k_staticType k_dynamicType k_target k_argumentCounts k_temporaryCounts k_keys k_kinds k_values k_temporaryKinds k_newKinds k_newValues g11 d_method d_family d_oldCount d_keptSet d_count d_sources d_keys d_defaults d_usedKeys g12 g13 e_counter e_temporaries e_arguments g_count g_kept g_kinds g_positions ++ hW cI cM a_h_ad g14) H := hP
          have hD : va_D _ (W_x_o_t_m_k_d_h_e_g cI cM a_x a_x_hoistedOfCall a_o a_t a_t_supertypes a_m a_m_type a_m_name a_m_arity a_m_keys a_m_defaults a_k a_k_staticType a_k_dynamicType a_k_target a_k_argumentCounts a_k_temporaryCounts a_k_keys a_k_kinds a_k_values a_k_temporaryKinds a_k_newKinds a_k_newValues a_d a_d_sources a_d_keys a_d_defaults a_h a_h_saved a_e a_e_temporaries a_e_arguments a_g a_g_kinds a_g_positions a_h_ad x_hoistedOfCall g16 g17 g18 m_count m_type m_name m_arity m_keys m_defaults k_count k_frozenSet k_staticType k_dynamicType k_target k_argumentCounts k_temporaryCounts k_keys k_kinds k_values k_temporaryKinds k_newKinds k_newValues g11 d_method d_family d_oldCount d_keptSet d_count d_sources d_keys d_defaults d_usedKeys g12 g13 e_counter e_temporaries e_arguments g_count g_kept g_kinds g_positions ++ hW cI cM a_h_ad g14) := hD
          simp only [Option.some.injEq, Prod.mk.injEq] at h
          obtain ⟨e0, e1, e2, e3, e4, e5, e6, e7⟩ := h
          exact kRetI hx hb hr hlk e0 (by rw [← hw1, ← e1, ← e2, ← e3, ← e4, ← e5, ← e6, ← e7]; exact hP) hS dX8_declareType_82
        · have h := ifn h c10
          refine lv_bipush (v := (-3)) hx hb dX8_declareType_67 (by decide) ?_
          simp only [Option.some.injEq, Prod.mk.injEq] at h
          obtain ⟨e0, e1, e2, e3, e4, e5, e6, e7⟩ := h
          exact kRetI hx hb hr hlk e0 (by rw [← hw1, ← e1, ← e2, ← e3, ← e4, ← e5, ← e6, ← e7]; exact hP) hS dX8_declareType_69
      · have h := ifn h c9
        refine lv_bipush (v := (-2)) hx hb dX8_declareType_54 (by decide) ?_
        simp only [Option.some.injEq, Prod.mk.injEq] at h
        obtain ⟨e0, e1, e2, e3, e4, e5, e6, e7⟩ := h
        exact kRetI hx hb hr hlk e0 (by rw [← hw1, ← e1, ← e2, ← e3, ← e4, ← e5, ← e6, ← e7]; exact hP) hS dX8_declareType_56
    · have h := ifp h c5
      refine lv_iconst (v := (-1)) hx hb dX8_declareType_28 (by decide) ?_
      simp only [Option.some.injEq, Prod.mk.injEq] at h
      obtain ⟨e0, e1, e2, e3, e4, e5, e6, e7⟩ := h
      exact kRetI hx hb hr hlk e0 (by rw [← hw1, ← e1, ← e2, ← e3, ← e4, ← e5, ← e6, ← e7]; exact hP) hS dX8_declareType_29
set_option maxHeartbeats 8000000 in
set_option maxRecDepth 100000 in
theorem qX8_isSignature (l : Launch) (D : va_G) (cI cM : ClassId) (x0 : Int32) (x1 : Int32) (r : Int32) (h : fX8_isSignature x0 x1 = some r) : PM l yX8_isSignature wsX8_isSignature rmX8_isSignature D cI cM [.int x0, .int x1] ([]) r := by
  refine PM.of (cc := cX8_isSignature) (maxL := 2) (ret := (some .boolean)) (by decide) rfl (Nat.le_of_ble_eq_true rfl) ?_
  intro p e s m below meth c ls hx hb hr hml hown hts hlk hP hKK hl
  have hown : s.vm.findClass RX8 = some m.cls := hown
  have hl : lv_has ls 2 [(0, .int x0), (1, .int x1)] := hl
  generalize hav : ([.int x0, .int x1] : List Value) = av at hts ⊢
  have SS : CallFix p m c cX8_isSignature 2 s av.toArray wsX8_isSignature RX8 := ⟨hx, hb, hml, hown, hts⟩
  unfold fX8_isSignature at h
  refine lv_iload_n hx hb dX8_isSignature_0 rfl (lv_at hl 0 rfl) ?_
  refine lv_if_lt (tgt := 22) hx hb dX8_isSignature_1 (by decide) (fun c1 => ?_) (fun c1 => ?_)
  · have h := ifp h c1
    refine lv_iconst (v := 0) hx hb dX8_isSignature_22 (by decide) ?_
    exact kRetZ hx hb hr hlk rfl (Option.some.inj h) dX8_isSignature_23
  · have h := ifn h c1
    refine lv_iload_n hx hb dX8_isSignature_4 rfl (lv_at hl 0 rfl) ?_
    refine lv_iconst (v := 5) hx hb dX8_isSignature_5 (by decide) ?_
    refine lv_icmp_gt (tgt := 22) hx hb dX8_isSignature_6 (by decide) (fun c2 => ?_) (fun c2 => ?_)
    · have h := ifp h c2
      refine lv_iconst (v := 0) hx hb dX8_isSignature_22 (by decide) ?_
      exact kRetZ hx hb hr hlk rfl (Option.some.inj h) dX8_isSignature_23
    · have h := ifn h c2
      refine lv_iload_n hx hb dX8_isSignature_9 rfl (lv_at hl 1 rfl) ?_
      refine lv_if_lt (tgt := 22) hx hb dX8_isSignature_10 (by decide) (fun c3 => ?_) (fun c3 => ?_)
      · have h := ifp h c3
        refine lv_iconst (v := 0) hx hb dX8_isSignature_22 (by decide) ?_
        exact kRetZ hx hb hr hlk rfl (Option.some.inj h) dX8_isSignature_23
      · have h := ifn h c3
        refine lv_iload_n hx hb dX8_isSignature_13 rfl (lv_at hl 1 rfl) ?_
        refine lv_iconst (v := 5) hx hb dX8_isSignature_14 (by decide) ?_
        refine lv_icmp_gt (tgt := 22) hx hb dX8_isSignature_15 (by decide) (fun c4 => ?_) (fun c4 => ?_)
        · have h := ifp h c4
          refine lv_iconst (v := 0) hx hb dX8_isSignature_22 (by decide) ?_
          exact kRetZ hx hb hr hlk rfl (Option.some.inj h) dX8_isSignature_23
        · have h := ifn h c4
          refine lv_iconst (v := 1) hx hb dX8_isSignature_18 (by decide) ?_
          refine lv_goto (tgt := 23) hx hb dX8_isSignature_19 (by decide) ?_
          exact kRetZ hx hb hr hlk rfl (Option.some.inj h) dX8_isSignature_23
set_option maxHeartbeats 8000000 in
set_option maxRecDepth 100000 in
theorem qX8_declareMethod (l : Launch) (D : va_G) (cI cM : ClassId) (a_x a_x_hoistedOfCall a_o a_t a_t_supertypes a_m a_m_type a_m_name a_m_arity a_m_keys a_m_defaults a_k a_k_staticType a_k_dynamicType a_k_target a_k_argumentCounts a_k_temporaryCounts a_k_keys a_k_kinds a_k_values a_k_temporaryKinds a_k_newKinds a_k_newValues a_d a_d_sources a_d_keys a_d_defaults a_h a_h_saved a_e a_e_temporaries a_e_arguments a_g a_g_kinds a_g_positions : Nat) (a_h_ad : Nat → Nat → Nat) (x_hoistedOfCall : Nat → Int32) (t_count : Int32) (t_interfaceSet : Int32) (t_supertypes : Nat → Int32) (m_count : Int32) (m_type : Nat → Int32) (m_name : Nat → Int32) (m_arity : Nat → Int32) (m_keys : Nat → Int32) (m_defaults : Nat → Int32) (k_count : Int32) (k_frozenSet : Int32) (k_staticType : Nat → Int32) (k_dynamicType : Nat → Int32) (k_target : Nat → Int32) (k_argumentCounts : Nat → Int32) (k_temporaryCounts : Nat → Int32) (k_keys : Nat → Int32) (k_kinds : Nat → Int32) (k_values : Nat → Int32) (k_temporaryKinds : Nat → Int32) (k_newKinds : Nat → Int32) (k_newValues : Nat → Int32) (d_open : Int32) (d_method : Int32) (d_family : Int32) (d_oldCount : Int32) (d_keptSet : Int32) (d_count : Int32) (d_sources : Nat → Int32) (d_keys : Nat → Int32) (d_defaults : Nat → Int32) (d_usedKeys : Int32) (h_count : Int32) (h_next : Int32) (e_counter : Int32) (e_temporaries : Nat → Int32) (e_arguments : Nat → Int32) (g_count : Int32) (g_kept : Int32) (g_kinds : Nat → Int32) (g_positions : Nat → Int32) (h_hs : Nat → MS) (x1 : Int32) (x2 : Int32) (x3 : Int32) (r : Int32) (r_m_count : Int32) (r_m_type : Nat → Int32) (r_m_name : Nat → Int32) (r_m_arity : Nat → Int32) (r_m_keys : Nat → Int32) (r_m_defaults : Nat → Int32) (r_d_open : Int32) (r_h_count : Int32) (r_h_next : Int32) (r_h_hs : Nat → MS) (h : fX8_declareMethod t_count t_interfaceSet t_supertypes m_count m_type m_name m_arity m_keys m_defaults k_count k_frozenSet k_staticType k_dynamicType k_target k_argumentCounts k_temporaryCounts k_keys k_kinds k_values k_temporaryKinds k_newKinds k_newValues d_open h_count h_next h_hs x1 x2 x3 = some (r, r_m_count, r_m_type, r_m_name, r_m_arity, r_m_keys, r_m_defaults, r_d_open, r_h_count, r_h_next, r_h_hs)) : IM l yX8_declareMethod wsX8_declareMethod rmX8_declareMethod D cI cM [.ref a_x, .int x1, .int x2, .int x3] (W_x_o_t_m_k_d_h_e_g cI cM a_x a_x_hoistedOfCall a_o a_t a_t_supertypes a_m a_m_type a_m_name a_m_arity a_m_keys a_m_defaults a_k a_k_staticType a_k_dynamicType a_k_target a_k_argumentCounts a_k_temporaryCounts a_k_keys a_k_kinds a_k_values a_k_temporaryKinds a_k_newKinds a_k_newValues a_d a_d_sources a_d_keys a_d_defaults a_h a_h_saved a_e a_e_temporaries a_e_arguments a_g a_g_kinds a_g_positions a_h_ad x_hoistedOfCall t_count t_interfaceSet t_supertypes m_count m_type m_name m_arity m_keys m_defaults k_count k_frozenSet k_staticType k_dynamicType k_target k_argumentCounts k_temporaryCounts k_keys k_kinds k_values k_temporaryKinds k_newKinds k_newValues d_open d_method d_family d_oldCount d_keptSet d_count d_sources d_keys d_defaults d_usedKeys h_count h_next e_counter e_temporaries e_arguments g_count g_kept g_kinds g_positions ++ hW cI cM a_h_ad h_hs) (W_x_o_t_m_k_d_h_e_g cI cM a_x a_x_hoistedOfCall a_o a_t a_t_supertypes a_m a_m_type a_m_name a_m_arity a_m_keys a_m_defaults a_k a_k_staticType a_k_dynamicType a_k_target a_k_argumentCounts a_k_temporaryCounts a_k_keys a_k_kinds a_k_values a_k_temporaryKinds a_k_newKinds a_k_newValues a_d a_d_sources a_d_keys a_d_defaults a_h a_h_saved a_e a_e_temporaries a_e_arguments a_g a_g_kinds a_g_positions a_h_ad x_hoistedOfCall t_count t_interfaceSet t_supertypes r_m_count r_m_type r_m_name r_m_arity r_m_keys r_m_defaults k_count k_frozenSet k_staticType k_dynamicType k_target k_argumentCounts k_temporaryCounts k_keys k_kinds k_values k_temporaryKinds k_newKinds k_newValues r_d_open d_method d_family d_oldCount d_keptSet d_count d_sources d_keys d_defaults d_usedKeys r_h_count r_h_next e_counter e_temporaries e_arguments g_count g_kept g_kinds g_positions ++ hW cI cM a_h_ad r_h_hs) (some (.int r)) := by
  refine IM.of (cc := cX8_declareMethod) (maxL := 6) (ret := (some .int)) (by decide) rfl (Nat.le_of_ble_eq_true rfl) ?_
  intro p e s m below meth c ls hx hb hr hml hown hts hlk hKK hP hD hS hl
  have hown : s.vm.findClass RX8 = some m.cls := hown
  have hl : lv_has ls 6 [(0, .ref a_x), (1, .int x1), (2, .int x2), (3, .int x3)] := hl
  generalize hav : ([.ref a_x, .int x1, .int x2, .int x3] : List Value) = av at hts ⊢
  generalize hw1 : W_x_o_t_m_k_d_h_e_g cI cM a_x a_x_hoistedOfCall a_o a_t a_t_supertypes a_m a_m_type a_m_name a_m_arity a_m_keys a_m_defaults a_k a_k_staticType a_k_dynamicType a_k_target a_k_argumentCounts a_k_temporaryCounts a_k_keys a_k_kinds a_k_values a_k_temporaryKinds a_k_newKinds a_k_newValues a_d a_d_sources a_d_keys a_d_defaults a_h a_h_saved a_e a_e_temporaries a_e_arguments a_g a_g_kinds a_g_positions a_h_ad x_hoistedOfCall t_count t_interfaceSet t_supertypes r_m_count r_m_type r_m_name r_m_arity r_m_keys r_m_defaults k_count k_frozenSet k_staticType k_dynamicType k_target k_argumentCounts k_temporaryCounts k_keys k_kinds k_values k_temporaryKinds k_newKinds k_newValues r_d_open d_method d_family d_oldCount d_keptSet d_count d_sources d_keys d_defaults d_usedKeys r_h_count r_h_next e_counter e_temporaries e_arguments g_count g_kept g_kinds g_positions ++ hW cI cM a_h_ad r_h_hs = w1
  generalize hw0 : W_x_o_t_m_k_d_h_e_g cI cM a_x a_x_hoistedOfCall a_o a_t a_t_supertypes a_m a_m_type a_m_name a_m_arity a_m_keys a_m_defaults a_k a_k_staticType a_k_dynamicType a_k_target a_k_argumentCounts a_k_temporaryCounts a_k_keys a_k_kinds a_k_values a_k_temporaryKinds a_k_newKinds a_k_newValues a_d a_d_sources a_d_keys a_d_defaults a_h a_h_saved a_e a_e_temporaries a_e_arguments a_g a_g_kinds a_g_positions a_h_ad x_hoistedOfCall t_count t_interfaceSet t_supertypes m_count m_type m_name m_arity m_keys m_defaults k_count k_frozenSet k_staticType k_dynamicType k_target k_argumentCounts k_temporaryCounts k_keys k_kinds k_values k_temporaryKinds k_newKinds k_newValues d_open d_method d_family d_oldCount d_keptSet d_count d_sources d_keys d_defaults d_usedKeys h_count h_next e_counter e_temporaries e_arguments g_count g_kept g_kinds g_positions ++ hW cI cM a_h_ad h_hs = w0 at hD hS ⊢
  have hP : va_P D vwCl (W_x_o_t_m_k_d_h_e_g cI cM a_x a_x_hoistedOfCall a_o a_t a_t_supertypes a_m a_m_type a_m_name a_m_arity a_m_keys a_m_defaults a_k a_k_staticType a_k_dynamicType a_k_target a_k_argumentCounts a_k_temporaryCounts a_k_keys a_k_kinds a_k_values a_k_temporaryKinds a_k_newKinds a_k_newValues a_d a_d_sources a_d_keys a_d_defaults a_h a_h_saved a_e a_e_temporaries a_e_arguments a_g a_g_kinds a_g_positions a_h_ad x_hoistedOfCall t_count t_interfaceSet t_supertypes m_count m_type m_name m_arity m_keys m_defaults k_count k_frozenSet k_staticType k_dynamicType k_target k_argumentCounts k_temporaryCounts k_keys k_kinds k_values k_temporaryKinds k_newKinds k_newValues d_open d_method d_family d_oldCount d_keptSet d_count d_sources d_keys d_defaults d_usedKeys h_count h_next e_counter e_temporaries e_arguments g_count g_kept g_kinds g_positions ++ hW cI cM a_h_ad h_hs) s.heap := hP
  have hD : va_D (fun q => q ∈ w0.map (·.1)) (W_x_o_t_m_k_d_h_e_g cI cM a_x a_x_hoistedOfCall a_o a_t a_t_supertypes a_m a_m_type a_m_name a_m_arity a_m_keys a_m_defaults a_k a_k_staticType a_k_dynamicType a_k_target a_k_argumentCounts a_k_temporaryCounts a_k_keys a_k_kinds a_k_values a_k_temporaryKinds a_k_newKinds a_k_newValues a_d a_d_sources a_d_keys a_d_defaults a_h a_h_saved a_e a_e_temporaries a_e_arguments a_g a_g_kinds a_g_positions a_h_ad x_hoistedOfCall t_count t_interfaceSet t_supertypes m_count m_type m_name m_arity m_keys m_defaults k_count k_frozenSet k_staticType k_dynamicType k_target k_argumentCounts k_temporaryCounts k_keys k_kinds k_values k_temporaryKinds k_newKinds k_newValues d_open d_method d_family d_oldCount d_keptSet d_count d_sources d_keys d_defaults d_usedKeys h_count h_next e_counter e_temporaries e_arguments g_count g_kept g_kinds g_positions ++ hW cI cM a_h_ad h_hs) := by rw [hw0]; exact hD
  have SS : CallFix p m c cX8_declareMethod 6 s av.toArray wsX8_declareMethod RX8 := ⟨hx, hb, hml, hown, hts⟩
  have hinX5 : ∀ w ∈ u_ws RX5 TX5 6, w ∈ wsX8_declareMethod := by decide +kernel
  have hinX6 : ∀ w ∈ u_ws RX6 TX6 3, w ∈ wsX8_declareMethod := by decide +kernel
  have hinX8 : ∀ w ∈ u_ws RX8 TX8 6, w ∈ wsX8_declareMethod := by decide +kernel
  have lk10 := hts (.fieldLink RX8 10 "SignatureChanger" "model" "LSignatureChanger$Model;") (List.mem_of_getElem? (i := 1) rfl)
  have lk48 := hts (.fieldLink RX8 48 "SignatureChanger$Model" "types" "LSignatureChanger$Types;") (List.mem_of_getElem? (i := 3) rfl)
  have lk66 := hts (.fieldLink RX8 66 "SignatureChanger$Model" "methods" "LSignatureChanger$Methods;") (List.mem_of_getElem? (i := 2) rfl)
  have lk108 := hts (.fieldLink RX8 108 "SignatureChanger$Methods" "count" "I") (List.mem_of_getElem? (i := 4) rfl)
  have cw79 : CallW rmX8_declareMethod s av.toArray RX8 RX8 79 yX8_beginEdit cX8_beginEdit 1 none wsX8_beginEdit rmX8_beginEdit 0 0 0 := cwV 0 hts gX8_declareMethod_X8_beginEdit rfl rfl rfl (by decide +kernel) ⟨Nat.le_of_ble_eq_true rfl, Nat.le_of_ble_eq_true rfl⟩
  have cw85 : CallW rmX8_declareMethod s av.toArray RX8 RX7 85 yX7_exists cX7_exists 2 (some .boolean) wsX7_exists rmX7_exists 0 0 1 := cwV 1 hts gX8_declareMethod_X7_exists rfl rfl rfl (by decide +kernel) ⟨Nat.le_of_ble_eq_true rfl, Nat.le_of_ble_eq_true rfl⟩
  have cw88 : CallB rmX8_declareMethod s av.toArray RX8 88 yX8_isSignature cX8_isSignature 2 (some .boolean) wsX8_isSignature rmX8_isSignature 0 0 2 ∧ (Cond.static yX8_isSignature).before av.toArray s = true := va_cwS 2 hts gX8_declareMethod_X8_isSignature rfl rfl rfl (by decide +kernel) ⟨Nat.le_of_ble_eq_true rfl, Nat.le_of_ble_eq_true rfl⟩
  have cw91 : CallB rmX8_declareMethod s av.toArray RX8 91 yX8_bit cX8_bit 1 (some .int) wsX8_bit rmX8_bit 0 0 1 ∧ (Cond.static yX8_bit).before av.toArray s = true := va_cwS 1 hts gX8_declareMethod_X8_bit rfl rfl rfl (by decide +kernel) ⟨Nat.le_of_ble_eq_true rfl, Nat.le_of_ble_eq_true rfl⟩
  have cw95 : CallW rmX8_declareMethod s av.toArray RX8 RX7 95 yX7_connectedWith cX7_connectedWith 4 (some .int) wsX7_connectedWith rmX7_connectedWith 0 0 1 := cwV 1 hts gX8_declareMethod_X7_connectedWith rfl rfl rfl (by decide +kernel) ⟨Nat.le_of_ble_eq_true rfl, Nat.le_of_ble_eq_true rfl⟩
  have cw98 : CallW rmX8_declareMethod s av.toArray RX8 RX5 98 yX5_withSignature cX5_withSignature 7 (some .int) wsX5_withSignature rmX5_withSignature 0 0 3 := cwV 3 hts gX8_declareMethod_X5_withSignature rfl rfl rfl (by decide +kernel) ⟨Nat.le_of_ble_eq_true rfl, Nat.le_of_ble_eq_true rfl⟩
  have cw102 : CallW rmX8_declareMethod s av.toArray RX8 RX5 102 yX5_declaredBy cX5_declaredBy 4 (some .int) wsX5_declaredBy rmX5_declaredBy 0 0 3 := cwV 3 hts gX8_declareMethod_X5_declaredBy rfl rfl rfl (by decide +kernel) ⟨Nat.le_of_ble_eq_true rfl, Nat.le_of_ble_eq_true rfl⟩
  have cw105 : CallW rmX8_declareMethod s av.toArray RX8 RX5 105 yX5_agree cX5_agree 4 (some .boolean) wsX5_agree rmX5_agree 0 0 1 := cwV 1 hts gX8_declareMethod_X5_agree rfl rfl rfl (by decide +kernel) ⟨Nat.le_of_ble_eq_true rfl, Nat.le_of_ble_eq_true rfl⟩
  have cw109 : CallW rmX8_declareMethod s av.toArray RX8 RX5 109 yX5_smallest cX5_smallest 3 (some .int) wsX5_smallest rmX5_smallest 0 0 1 := cwV 1 hts gX8_declareMethod_X5_smallest rfl rfl rfl (by decide +kernel) ⟨Nat.le_of_ble_eq_true rfl, Nat.le_of_ble_eq_true rfl⟩
  have cw112 : CallW rmX8_declareMethod s av.toArray RX8 RX5 112 yX5_add cX5_add 8 (some .int) wsX5_add rmX5_add 0 0 4 := cwV 4 hts gX8_declareMethod_X5_add rfl rfl rfl (by decide +kernel) ⟨Nat.le_of_ble_eq_true rfl, Nat.le_of_ble_eq_true rfl⟩
  unfold fX8_declareMethod at h
  refine lv_aload_n hx hb dX8_declareMethod_0 rfl (lv_at hl 0 rfl) ?_
  refine va_get (D := D) (ci := 8) (v := .ref a_o) (C := RX8) (T := TX8) (N := 6) hx hb hts hinX8 hown hKK.1 hP 0 rfl rfl 0 (by decide) lk10 (fun _ h9 => h9) rfl dX8_declareMethod_1 ?_
  refine va_get (D := D) (ci := 6) (v := .ref a_m) (C := RX6) (T := TX6) (N := 3) hx hb hts hinX6 hown hKK.1 hP 2 rfl rfl 1 (by decide) lk66 (fun _ h9 => h9) rfl dX8_declareMethod_4 ?_
  refine lv_astore (lv' := [(4, .ref a_m), (0, .ref a_x), (1, .int x1), (2, .int x2), (3, .int x3)]) hx hb dX8_declareMethod_7 hl (by decide) rfl (fun ls hl => ?_)
  refine lv_aload_n hx hb dX8_declareMethod_9 rfl (lv_at hl 1 rfl) ?_
  refine va_get (D := D) (ci := 8) (v := .ref a_o) (C := RX8) (T := TX8) (N := 6) hx hb hts hinX8 hown hKK.1 hP 0 rfl rfl 0 (by decide) lk10 (fun _ h9 => h9) rfl dX8_declareMethod_10 ?_
  refine va_get (D := D) (ci := 6) (v := .ref a_t) (C := RX6) (T := TX6) (N := 3) hx hb hts hinX6 hown hKK.1 hP 2 rfl rfl 0 (by decide) lk48 (fun _ h9 => h9) rfl dX8_declareMethod_13 ?_
  refine lv_iload_n hx hb dX8_declareMethod_16 rfl (lv_at hl 2 rfl) ?_
  obtain ⟨v1, ev1, h⟩ := bn_some h
  have hs2 : va_P D vwCl (W_t cI cM a_t a_t_supertypes t_count t_interfaceSet t_supertypes) _ := blkP (Bs := [B_x cI cM a_x a_x_hoistedOfCall a_o a_d a_h a_e a_g x_hoistedOfCall, B_o cI cM a_o a_t a_m a_k , B_t cI cM a_t a_t_supertypes t_count t_interfaceSet t_supertypes, B_m cI cM a_m a_m_type a_m_name a_m_arity a_m_keys a_m_defaults m_count m_type m_name m_arity m_keys m_defaults, B_k cI cM a_k a_k_staticType a_k_dynamicType a_k_target a_k_argumentCounts a_k_temporaryCounts a_k_keys a_k_kinds a_k_values a_k_temporaryKinds a_k_newKinds a_k_newValues k_count k_frozenSet k_staticType k_dynamicType k_target k_argumentCounts k_temporaryCounts k_keys k_kinds k_values k_temporaryKinds k_newKinds k_newValues, B_d cI cM a_d a_d_sources a_d_keys a_d_defaults d_open d_method d_family d_oldCount d_keptSet d_count d_sources d_keys d_defaults d_usedKeys, B_h cI cM a_h a_h_saved a_h_ad h_count h_next, B_e cI cM a_e a_e_temporaries a_e_arguments e_counter e_temporaries e_arguments, B_g cI cM a_g a_g_kinds a_g_positions g_count g_kept g_kinds g_positions, hW cI cM a_h_ad h_hs]) hP [2] (C0 := [B_t cI cM a_t a_t_supertypes t_count t_interfaceSet t_supertypes]) rfl rfl
  refine kV (As := [.int x1]) (rest := []) SS hKK (qX7_exists l D cI cM a_t a_t_supertypes t_count t_interfaceSet t_supertypes x1 v1 ev1) cw85 hs2 0 7 rfl rfl rfl hl.1 rfl (Nat.le_of_ble_eq_true rfl) dX8_declareMethod_17 ⟨Nat.zero_le _, Nat.zero_le _⟩ ?_
  refine lv_if_eq (tgt := 31) hx hb dX8_declareMethod_20 (by decide) (fun c3 => ?_) (fun c3 => ?_)
  · have h := ifp h c3
    refine lv_iconst (v := (-1)) hx hb dX8_declareMethod_31 (by decide) ?_
    simp only [Option.some.injEq, Prod.mk.injEq] at h
    obtain ⟨e0, e1, e2, e3, e4, e5, e6, e7, e8, e9, e10⟩ := h
    exact kRetI hx hb hr hlk e0 (by rw [← hw1, ← e1, ← e2, ← e3, ← e4, ← e5, ← e6, ← e7, ← e8, ← e9, ← e10]; exact hP) hS dX8_declareMethod_32
  · have h := ifn h c3
    refine lv_iload_n hx hb dX8_declareMethod_23 rfl (lv_at hl 3 rfl) ?_
    refine lv_iload_n hx hb dX8_declareMethod_24 rfl (lv_at hl 4 rfl) ?_
    obtain ⟨v4, ev4, h⟩ := bn_some h
    refine kS (As := [.int x2, .int x3]) (rest := []) SS hKK (qX8_isSignature l D cI cM x2 x3 v4 ev4) cw88 va_P_nil rfl hl.1 rfl (Nat.le_of_ble_eq_true rfl) dX8_declareMethod_25 ⟨Nat.zero_le _, Nat.zero_le _⟩ ?_
    refine lv_if_ne (tgt := 33) hx hb dX8_declareMethod_28 (by decide) (fun c5 => ?_) (fun c5 => ?_)
    · have h := ifn h c5
      refine lv_aload hx hb dX8_declareMethod_33 (lv_at hl 0 rfl) ?_
      refine lv_iload_n hx hb dX8_declareMethod_35 rfl (lv_at hl 3 rfl) ?_
      refine lv_iload_n hx hb dX8_declareMethod_36 rfl (lv_at hl 4 rfl) ?_
      refine lv_aload_n hx hb dX8_declareMethod_37 rfl (lv_at hl 1 rfl) ?_
      refine va_get (D := D) (ci := 8) (v := .ref a_o) (C := RX8) (T := TX8) (N := 6) hx hb hts hinX8 hown hKK.1 hP 0 rfl rfl 0 (by decide) lk10 (fun _ h9 => h9) rfl dX8_declareMethod_38 ?_
      refine va_get (D := D) (ci := 6) (v := .ref a_t) (C := RX6) (T := TX6) (N := 3) hx hb hts hinX6 hown hKK.1 hP 2 rfl rfl 0 (by decide) lk48 (fun _ h9 => h9) rfl dX8_declareMethod_41 ?_
      refine lv_iload_n hx hb dX8_declareMethod_44 rfl (lv_at hl 2 rfl) ?_
      obtain ⟨v6, ev6, h⟩ := bn_some h
      refine kS (As := [.int x1]) (rest := [.ref a_t, .int x3, .int x2, .ref a_m]) SS hKK (qX8_bit l D cI cM x1 v6 ev6) cw91 va_P_nil rfl hl.1 rfl (Nat.le_of_ble_eq_true rfl) dX8_declareMethod_45 ⟨Nat.zero_le _, Nat.zero_le _⟩ ?_
      obtain ⟨v7, ev7, h⟩ := bn_some h
      refine kV (As := [.int v6]) (rest := [.int x3, .int x2, .ref a_m]) SS hKK (qX7_connectedWith l D cI cM a_t a_t_supertypes t_count t_interfaceSet t_supertypes v6 v7 ev7) cw95 hs2 0 7 rfl rfl rfl hl.1 rfl (Nat.le_of_ble_eq_true rfl) dX8_declareMethod_48 ⟨Nat.zero_le _, Nat.zero_le _⟩ ?_
      obtain ⟨v8, ev8, h⟩ := bn_some h
      have hs9 : va_P D vwCl (W_m cI cM a_m a_m_type a_m_name a_m_arity a_m_keys a_m_defaults m_count m_type m_name m_arity m_keys m_defaults) _ := blkP (Bs := [B_x cI cM a_x a_x_hoistedOfCall a_o a_d a_h a_e a_g x_hoistedOfCall, B_o cI cM a_o a_t a_m a_k , B_t cI cM a_t a_t_supertypes t_count t_interfaceSet t_supertypes, B_m cI cM a_m a_m_type a_m_name a_m_arity a_m_keys a_m_defaults m_count m_type m_name m_arity m_keys m_defaults, B_k cI cM a_k a_k_staticType a_k_dynamicType a_k_target a_k_argumentCounts a_k_temporaryCounts a_k_keys a_k_kinds a_k_values a_k_temporaryKinds a_k_newKinds a_k_newValues k_count k_frozenSet k_staticType k_dynamicType k_target k_argumentCounts k_temporaryCounts k_keys k_kinds k_values k_temporaryKinds k_newKinds k_newValues, B_d cI cM a_d a_d_sources a_d_keys a_d_defaults d_open d_method d_family d_oldCount d_keptSet d_count d_sources d_keys d_defaults d_usedKeys, B_h cI cM a_h a_h_saved a_h_ad h_count h_next, B_e cI cM a_e a_e_temporaries a_e_arguments e_counter e_temporaries e_arguments, B_g cI cM a_g a_g_kinds a_g_positions g_count g_kept g_kinds g_positions, hW cI cM a_h_ad h_hs]) hP [3] (C0 := [B_m cI cM a_m a_m_type a_m_name a_m_arity a_m_keys a_m_defaults m_count m_type m_name m_arity m_keys m_defaults]) rfl rfl
      refine kV (As := [.int x2, .int x3, .int v7]) (rest := []) SS hKK (qX5_withSignature l D cI cM a_m a_m_type a_m_name a_m_arity a_m_keys a_m_defaults m_count m_type m_name m_arity m_keys m_defaults x2 x3 v7 v8 ev8) cw98 hs9 0 5 rfl rfl rfl hl.1 rfl (Nat.le_of_ble_eq_true rfl) dX8_declareMethod_51 ⟨Nat.zero_le _, Nat.zero_le _⟩ ?_
      refine lv_istore (lv' := [(5, .int v8), (4, .ref a_m), (0, .ref a_x), (1, .int x1), (2, .int x2), (3, .int x3)]) hx hb dX8_declareMethod_54 hl (by decide) rfl (fun ls hl => ?_)
      refine lv_aload hx hb dX8_declareMethod_56 (lv_at hl 1 rfl) ?_
      refine lv_iload_n hx hb dX8_declareMethod_58 rfl (lv_at hl 3 rfl) ?_
      refine lv_iload_n hx hb dX8_declareMethod_59 rfl (lv_at hl 4 rfl) ?_
      refine lv_iload_n hx hb dX8_declareMethod_60 rfl (lv_at hl 5 rfl) ?_
      obtain ⟨v10, ev10, h⟩ := bn_some h
      refine kV (As := [.int x1, .int x2, .int x3]) (rest := []) SS hKK (qX5_declaredBy l D cI cM a_m a_m_type a_m_name a_m_arity a_m_keys a_m_defaults m_count m_type m_name m_arity m_keys m_defaults x1 x2 x3 v10 ev10) cw102 hs9 0 5 rfl rfl rfl hl.1 rfl (Nat.le_of_ble_eq_true rfl) dX8_declareMethod_61 ⟨Nat.zero_le _, Nat.zero_le _⟩ ?_
      refine lv_bipush (v := (-9)) hx hb dX8_declareMethod_64 (by decide) ?_
      refine lv_icmp_ne (tgt := 79) hx hb dX8_declareMethod_66 (by decide) (fun c11 => ?_) (fun c11 => ?_)
      · have h := ifn h c11
        refine lv_bipush (v := (-2)) hx hb dX8_declareMethod_79 (by decide) ?_
        simp only [Option.some.injEq, Prod.mk.injEq] at h
        obtain ⟨e0, e1, e2, e3, e4, e5, e6, e7, e8, e9, e10⟩ := h
        exact kRetI hx hb hr hlk e0 (by rw [← hw1, ← e1, ← e2, ← e3, ← e4, ← e5, ← e6, ← e7, ← e8, ← e9, ← e10]; exact hP) hS dX8_declareMethod_81
      · have h := ifp h c11
        refine lv_aload hx hb dX8_declareMethod_69 (lv_at hl 1 rfl) ?_
        refine lv_iload hx hb dX8_declareMethod_71 (lv_at hl 0 rfl) ?_
        obtain ⟨v12, ev12, h⟩ := bn_some h
        refine kV (As := [.int v8]) (rest := []) SS hKK (qX5_agree l D cI cM a_m a_m_type a_m_name a_m_arity a_m_keys a_m_defaults m_count m_type m_name m_arity m_keys m_defaults v8 v12 ev12) cw105 hs9 0 5 rfl rfl rfl hl.1 rfl (Nat.le_of_ble_eq_true rfl) dX8_declareMethod_73 ⟨Nat.zero_le _, Nat.zero_le _⟩ ?_
        refine lv_if_ne (tgt := 82) hx hb dX8_declareMethod_76 (by decide) (fun c13 => ?_) (fun c13 => ?_)
        · have h := ifn h c13
          refine lv_aload hx hb dX8_declareMethod_82 (lv_at hl 1 rfl) ?_
          refine va_get (D := D) (ci := 5) (v := .int m_count) (C := RX5) (T := TX5) (N := 6) hx hb hts hinX5 hown hKK.1 hP 5 rfl rfl 0 (by decide) lk108 (fun _ h9 => h9) rfl dX8_declareMethod_84 ?_
          refine lv_bipush (v := 16) hx hb dX8_declareMethod_87 (by decide) ?_
          refine lv_icmp_lt (tgt := 95) hx hb dX8_declareMethod_89 (by decide) (fun c14 => ?_) (fun c14 => ?_)
          · have h := ifp h c14
            refine lv_aload_n hx hb dX8_declareMethod_95 rfl (lv_at hl 2 rfl) ?_
            obtain ⟨g15, g16, g17, g18, eg15, h⟩ := bn4_some h
            refine kVB (As := []) (rest := []) (st1 := []) (Bs := [B_x cI cM a_x a_x_hoistedOfCall a_o a_d a_h a_e a_g x_hoistedOfCall, B_o cI cM a_o a_t a_m a_k , B_t cI cM a_t a_t_supertypes t_count t_interfaceSet t_supertypes, B_m cI cM a_m a_m_type a_m_name a_m_arity a_m_keys a_m_defaults m_count m_type m_name m_arity m_keys m_defaults, B_k cI cM a_k a_k_staticType a_k_dynamicType a_k_target a_k_argumentCounts a_k_temporaryCounts a_k_keys a_k_kinds a_k_values a_k_temporaryKinds a_k_newKinds a_k_newValues k_count k_frozenSet k_staticType k_dynamicType k_target k_argumentCounts k_temporaryCounts k_keys k_kinds k_values k_temporaryKinds k_newKinds k_newValues, B_d cI cM a_d a_d_sources a_d_keys a_d_defaults d_open d_method d_family d_oldCount d_keptSet d_count d_sources d_keys d_defaults d_usedKeys, B_h cI cM a_h a_h_saved a_h_ad h_count h_next, B_e cI cM a_e a_e_temporaries a_e_arguments e_counter e_temporaries e_arguments, B_g cI cM a_g a_g_kinds a_g_positions g_count g_kept g_kinds g_positions, hW cI cM a_h_ad h_hs]) (Bs1 := [B_x cI cM a_x a_x_hoistedOfCall a_o a_d a_h a_e a_g x_hoistedOfCall, B_o cI cM a_o a_t a_m a_k , B_t cI cM a_t a_t_supertypes t_count t_interfaceSet t_supertypes, B_m cI cM a_m a_m_type a_m_name a_m_arity a_m_keys a_m_defaults m_count m_type m_name m_arity m_keys m_defaults, B_k cI cM a_k a_k_staticType a_k_dynamicType a_k_target a_k_argumentCounts a_k_temporaryCounts a_k_keys a_k_kinds a_k_values a_k_temporaryKinds a_k_newKinds a_k_newValues k_count k_frozenSet k_staticType k_dynamicType k_target k_argumentCounts k_temporaryCounts k_keys k_kinds k_values k_temporaryKinds k_newKinds k_newValues, B_d cI cM a_d a_d_sources a_d_keys a_d_defaults g15 d_method d_family d_oldCount d_keptSet d_count d_sources d_keys d_defaults d_usedKeys, B_h cI cM a_h a_h_saved a_h_ad g16 g17, B_e cI cM a_e a_e_temporaries a_e_arguments e_counter e_temporaries e_arguments, B_g cI cM a_g a_g_kinds a_g_positions g_count g_kept g_kinds g_positions, hW cI cM a_h_ad g18]) SS hKK (qX8_beginEdit l D cI cM a_x a_x_hoistedOfCall a_o a_t a_t_supertypes a_m a_m_type a_m_name a_m_arity a_m_keys a_m_defaults a_k a_k_staticType a_k_dynamicType a_k_target a_k_argumentCounts a_k_temporaryCounts a_k_keys a_k_kinds a_k_values a_k_temporaryKinds a_k_newKinds a_k_newValues a_d a_d_sources a_d_keys a_d_defaults a_h a_h_saved a_e a_e_temporaries a_e_arguments a_g a_g_kinds a_g_positions a_h_ad x_hoistedOfCall t_count t_interfaceSet t_supertypes m_count m_type m_name m_arity m_keys m_defaults k_count k_frozenSet k_staticType k_dynamicType k_target k_argumentCounts k_temporaryCounts k_keys k_kinds k_values k_temporaryKinds k_newKinds k_newValues d_open d_method d_family d_oldCount d_keptSet d_count d_sources d_keys d_defaults d_usedKeys h_count h_next e_counter e_temporaries e_arguments g_count g_kept g_kinds g_positions h_hs g15 g16 g17 g18 eg15) cw79 hP hD hS (isC := [0, 1, 2, 3, 4, 5, 6, 7, 8, 9]) (isR := []) (C0 := [B_x cI cM a_x a_x_hoistedOfCall a_o a_d a_h a_e a_g x_hoistedOfCall, B_o cI cM a_o a_t a_m a_k , B_t cI cM a_t a_t_supertypes t_count t_interfaceSet t_supertypes, B_m cI cM a_m a_m_type a_m_name a_m_arity a_m_keys a_m_defaults m_count m_type m_name m_arity m_keys m_defaults, B_k cI cM a_k a_k_staticType a_k_dynamicType a_k_target a_k_argumentCounts a_k_temporaryCounts a_k_keys a_k_kinds a_k_values a_k_temporaryKinds a_k_newKinds a_k_newValues k_count k_frozenSet k_staticType k_dynamicType k_target k_argumentCounts k_temporaryCounts k_keys k_kinds k_values k_temporaryKinds k_newKinds k_newValues, B_d cI cM a_d a_d_sources a_d_keys a_d_defaults d_open d_method d_family d_oldCount d_keptSet d_count d_sources d_keys d_defaults d_usedKeys, B_h cI cM a_h a_h_saved a_h_ad h_count h_next, B_e cI cM a_e a_e_temporaries a_e_arguments e_counter e_temporaries e_arguments, B_g cI cM a_g a_g_kinds a_g_positions g_count g_kept g_kinds g_positions, hW cI cM a_h_ad h_hs]) (C1 := [B_x cI cM a_x a_x_hoistedOfCall a_o a_d a_h a_e a_g x_hoistedOfCall, B_o cI cM a_o a_t a_m a_k , B_t cI cM a_t a_t_supertypes t_count t_interfaceSet t_supertypes, B_m cI cM a_m a_m_type a_m_name a_m_arity a_m_keys a_m_defaults m_count m_type m_name m_arity m_keys m_defaults, B_k cI cM a_k a_k_staticType a_k_dynamicType a_k_target a_k_argumentCounts a_k_temporaryCounts a_k_keys a_k_kinds a_k_values a_k_temporaryKinds a_k_newKinds a_k_newValues k_count k_frozenSet k_staticType k_dynamicType k_target k_argumentCounts k_temporaryCounts k_keys k_kinds k_values k_temporaryKinds k_newKinds k_newValues, B_d cI cM a_d a_d_sources a_d_keys a_d_defaults g15 d_method d_family d_oldCount d_keptSet d_count d_sources d_keys d_defaults d_usedKeys, B_h cI cM a_h a_h_saved a_h_ad g16 g17, B_e cI cM a_e a_e_temporaries a_e_arguments e_counter e_temporaries e_arguments, B_g cI cM a_g a_g_kinds a_g_positions g_count g_kept g_kinds g_positions, hW cI cM a_h_ad g18]) (Rr := []) (show (List.range 10).Perm ([0, 1, 2, 3, 4, 5, 6, 7, 8, 9] ++ []) by decide) rfl rfl rfl rfl rfl rfl rfl (hW_addr rfl) 0 8 rfl rfl rfl hl.1 rfl (Nat.le_of_ble_eq_true rfl) dX8_declareMethod_96 ⟨Nat.zero_le _, Nat.zero_le _⟩ rfl (fun H locs hP hD hS => ?_)
            have hP : va_P D vwCl (W_x_o_t_m_k_d_h_e_g cI cM a_x a_x_hoistedOfCall a_o a_t a_t_supertypes a_m a_m_type a_m_name a_m_arity a_m_keys a_m_defaults a_k a_k_staticType a_k_dynamicType a_k_target a_k_argumentCounts a_k_temporaryCounts a_k_keys a_k_kinds a_k_values a_k_temporaryKinds a_k_newKinds a_k_newValues a_d a_d_sources a_d_keys a_d_defaults a_h a_h_saved a_e a_e_temporaries a_e_arguments a_g a_g_kinds a_g_positions a_h_ad x_hoistedOfCall t_count t_interfaceSet t_supertypes m_count m_type m_name m_arity m_keys m_defaults k_count k_frozenSet k_staticType k_dynamicType k_target k_argumentCounts k_temporaryCounts k_keys k_kinds k_values k_temporaryKinds k_newKinds k_newValues g15 d_method d_family d_oldCount d_keptSet d_count d_sources d_keys d_defaults d_usedKeys g16 g17 e_counter e_temporaries e_arguments g_count g_kept g_kinds g_positions ++ hW cI cM a_h_ad g18) H := hP
            have hD : va_D _ (W_x_o_t_m_k_d_h_e_g cI cM a_x a_x_hoistedOfCall a_o a_t a_t_supertypes a_m a_m_type a_m_name a_m_arity a_m_keys a_m_defaults a_k a_k_staticType a_k_dynamicType a_k_target a_k_argumentCounts a_k_temporaryCounts a_k_keys a_k_kinds a_k_values a_k_temporaryKinds a_k_newKinds a_k_newValues a_d a_d_sources a_d_keys a_d_defaults a_h a_h_saved a_e a_e_temporaries a_e_arguments a_g a_g_kinds a_g_positions a_h_ad x_hoistedOfCall t_count t_interfaceSet t_supertypes m_count m_type m_name m_arity m_keys m_defaults k_count k_frozenSet k_staticType k_dynamicType k_target k_argumentCounts k_temporaryCounts k_keys k_kinds k_values k_temporaryKinds k_newKinds k_newValues g15 d_method d_family d_oldCount d_keptSet d_count d_sources d_keys d_defaults d_usedKeys g16 g17 e_counter e_temporaries e_arguments g_count g_kept g_kinds g_positions ++ hW cI cM a_h_ad g18) := hD
            refine lv_aload hx hb dX8_declareMethod_99 (lv_at hl 1 rfl) ?_
            refine lv_iload_n hx hb dX8_declareMethod_101 rfl (lv_at hl 3 rfl) ?_
            refine lv_iload_n hx hb dX8_declareMethod_102 rfl (lv_at hl 4 rfl) ?_
            refine lv_iload_n hx hb dX8_declareMethod_103 rfl (lv_at hl 5 rfl) ?_
            refine lv_aload hx hb dX8_declareMethod_104 (lv_at hl 1 rfl) ?_
            refine lv_iload hx hb dX8_declareMethod_106 (lv_at hl 0 rfl) ?_
            obtain ⟨v19, ev19, h⟩ := bn_some h
            have hs20 : va_P D vwCl (W_m cI cM a_m a_m_type a_m_name a_m_arity a_m_keys a_m_defaults m_count m_type m_name m_arity m_keys m_defaults) _ := blkP (Bs := [B_x cI cM a_x a_x_hoistedOfCall a_o a_d a_h a_e a_g x_hoistedOfCall, B_o cI cM a_o a_t a_m a_k , B_t cI cM a_t a_t_supertypes t_count t_interfaceSet t_supertypes, B_m cI cM a_m a_m_type a_m_name a_m_arity a_m_keys a_m_defaults m_count m_type m_name m_arity m_keys m_defaults, B_k cI cM a_k a_k_staticType a_k_dynamicType a_k_target a_k_argumentCounts a_k_temporaryCounts a_k_keys a_k_kinds a_k_values a_k_temporaryKinds a_k_newKinds a_k_newValues k_count k_frozenSet k_staticType k_dynamicType k_target k_argumentCounts k_temporaryCounts k_keys k_kinds k_values k_temporaryKinds k_newKinds k_newValues, B_d cI cM a_d a_d_sources a_d_keys a_d_defaults g15 d_method d_family d_oldCount d_keptSet d_count d_sources d_keys d_defaults d_usedKeys, B_h cI cM a_h a_h_saved a_h_ad g16 g17, B_e cI cM a_e a_e_temporaries a_e_arguments e_counter e_temporaries e_arguments, B_g cI cM a_g a_g_kinds a_g_positions g_count g_kept g_kinds g_positions, hW cI cM a_h_ad g18]) hP [3] (C0 := [B_m cI cM a_m a_m_type a_m_name a_m_arity a_m_keys a_m_defaults m_count m_type m_name m_arity m_keys m_defaults]) rfl rfl
            refine kV (As := [.int v8]) (rest := [.int x3, .int x2, .int x1, .ref a_m]) SS hKK (qX5_smallest l D cI cM a_m a_m_type a_m_name a_m_arity a_m_keys a_m_defaults m_count m_type m_name m_arity m_keys m_defaults v8 v19 ev19) cw109 hs20 0 5 rfl rfl rfl hl.1 rfl (Nat.le_of_ble_eq_true rfl) dX8_declareMethod_108 ⟨Nat.zero_le _, Nat.zero_le _⟩ ?_
            obtain ⟨v21, g22, g23, g24, g25, g26, g27, ev21, h⟩ := bn7_some h
            refine kVB (As := [.int x1, .int x2, .int x3, .int v19]) (rest := []) (st1 := [.int v21]) (Bs := [B_x cI cM a_x a_x_hoistedOfCall a_o a_d a_h a_e a_g x_hoistedOfCall, B_o cI cM a_o a_t a_m a_k , B_t cI cM a_t a_t_supertypes t_count t_interfaceSet t_supertypes, B_m cI cM a_m a_m_type a_m_name a_m_arity a_m_keys a_m_defaults m_count m_type m_name m_arity m_keys m_defaults, B_k cI cM a_k a_k_staticType a_k_dynamicType a_k_target a_k_argumentCounts a_k_temporaryCounts a_k_keys a_k_kinds a_k_values a_k_temporaryKinds a_k_newKinds a_k_newValues k_count k_frozenSet k_staticType k_dynamicType k_target k_argumentCounts k_temporaryCounts k_keys k_kinds k_values k_temporaryKinds k_newKinds k_newValues, B_d cI cM a_d a_d_sources a_d_keys a_d_defaults g15 d_method d_family d_oldCount d_keptSet d_count d_sources d_keys d_defaults d_usedKeys, B_h cI cM a_h a_h_saved a_h_ad g16 g17, B_e cI cM a_e a_e_temporaries a_e_arguments e_counter e_temporaries e_arguments, B_g cI cM a_g a_g_kinds a_g_positions g_count g_kept g_kinds g_positions, hW cI cM a_h_ad g18]) (Bs1 := [B_x cI cM a_x a_x_hoistedOfCall a_o a_d a_h a_e a_g x_hoistedOfCall, B_o cI cM a_o a_t a_m a_k , B_t cI cM a_t a_t_supertypes t_count t_interfaceSet t_supertypes, B_m cI cM a_m a_m_type a_m_name a_m_arity a_m_keys a_m_defaults g22 g23 g24 g25 g26 g27, B_k cI cM a_k a_k_staticType a_k_dynamicType a_k_target a_k_argumentCounts a_k_temporaryCounts a_k_keys a_k_kinds a_k_values a_k_temporaryKinds a_k_newKinds a_k_newValues k_count k_frozenSet k_staticType k_dynamicType k_target k_argumentCounts k_temporaryCounts k_keys k_kinds k_values k_temporaryKinds k_newKinds k_newValues, B_d cI cM a_d a_d_sources a_d_keys a_d_defaults g15 d_method d_family d_oldCount d_keptSet d_count d_sources d_keys d_defaults d_usedKeys, B_h cI cM a_h a_h_saved a_h_ad g16 g17, B_e cI cM a_e a_e_temporaries a_e_arguments e_counter e_temporaries e_arguments, B_g cI cM a_g a_g_kinds a_g_positions g_count g_kept g_kinds g_positions, hW cI cM a_h_ad g18]) SS hKK (qX5_add l D cI cM a_m a_m_type a_m_name a_m_arity a_m_keys a_m_defaults m_count m_type m_name m_arity m_keys m_defaults x1 x2 x3 v19 v21 g22 g23 g24 g25 g26 g27 ev21) cw112 hP hD hS (isC := [3]) (isR := [0, 1, 2, 4, 5, 6, 7, 8, 9]) (C0 := [B_m cI cM a_m a_m_type a_m_name a_m_arity a_m_keys a_m_defaults m_count m_type m_name m_arity m_keys m_defaults]) (C1 := [B_m cI cM a_m a_m_type a_m_name a_m_arity a_m_keys a_m_defaults g22 g23 g24 g25 g26 g27]) (Rr := [B_x cI cM a_x a_x_hoistedOfCall a_o a_d a_h a_e a_g x_hoistedOfCall, B_o cI cM a_o a_t a_m a_k , B_t cI cM a_t a_t_supertypes t_count t_interfaceSet t_supertypes, B_k cI cM a_k a_k_staticType a_k_dynamicType a_k_target a_k_argumentCounts a_k_temporaryCounts a_k_keys a_k_kinds a_k_values a_k_temporaryKinds a_k_newKinds a_k_newValues k_count k_frozenSet k_staticType k_dynamicType k_target k_argumentCounts k_temporaryCounts k_keys k_kinds k_values k_temporaryKinds k_newKinds k_newValues, B_d cI cM a_d a_d_sources a_d_keys a_d_defaults g15 d_method d_family d_oldCount d_keptSet d_count d_sources d_keys d_defaults d_usedKeys, B_h cI cM a_h a_h_saved a_h_ad g16 g17, B_e cI cM a_e a_e_temporaries a_e_arguments e_counter e_temporaries e_arguments, B_g cI cM a_g a_g_kinds a_g_positions g_count g_kept g_kinds g_positions, hW cI cM a_h_ad g18]) (show (List.range 10).Perm ([3] ++ [0, 1, 2, 4, 5, 6, 7, 8, 9]) by decide) rfl rfl rfl rfl rfl rfl rfl rfl 0 5 rfl rfl rfl hl.1 rfl (Nat.le_of_ble_eq_true rfl) dX8_declareMethod_111 ⟨Nat.zero_le _, Nat.zero_le _⟩ rfl (fun H locs hP hD hS => ?_)
            have hP : va_P D vwCl (W_x_o_t_m_k_d_h_e_g cI cM a_x a_x_hoistedOfCall a_o a_t a_t_supertypes a_m a_m_type a_m_name a_m_arity a_m_keys a_m_defaults a_k a_k_staticType a_k_dynamicType a_k_target a_k_argumentCounts a_k_temporaryCounts a_k_keys a_k_kinds a_k_values a_k_temporaryKinds a_k_newKinds a_k_newValues a_d a_d_sources a_d_keys a_d_defaults a_h a_h_saved a_e a_e_temporaries a_e_arguments a_g a_g_kinds a_g_positions a_h_ad x_hoistedOfCall t_count t_interfaceSet t_supertypes g22 g23 g24 g25 g26 g27 k_count k_frozenSet k_staticType k_dynamicType k_target k_argumentCounts k_temporaryCounts k_keys k_kinds k_values k_temporaryKinds k_newKinds k_newValues g15 d_method d_family d_oldCount d_keptSet d_count d_sources d_keys d_defaults d_usedKeys g16 g17 e_counter e_temporaries e_arguments g_count g_kept g_kinds g_positions ++ hW cI cM a_h_ad g18) H := hP
            have hD : va_D _ (W_x_o_t_m_k_d_h_e_g cI cM a_x a_x_hoistedOfCall a_o a_t a_t_supertypes a_m a_m_type a_m_name a_m_arity a_m_keys a_m_defaults a_k a_k_staticType a_k_dynamicType a_k_target a_k_argumentCounts a_k_temporaryCounts a_k_keys a_k_kinds a_k_values a_k_temporaryKinds a_k_newKinds a_k_newValues a_d a_d_sources a_d_keys a_d_defaults a_h a_h_saved a_e a_e_temporaries a_e_arguments a_g a_g_kinds a_g_positions a_h_ad x_hoistedOfCall t_count t_interfaceSet t_supertypes g22 g23 g24 g25 g26 g27 k_count k_frozenSet k_staticType k_dynamicType k_target k_argumentCounts k_temporaryCounts k_keys k_kinds k_values k_temporaryKinds k_newKinds k_newValues g15 d_method d_family d_oldCount d_keptSet d_count d_sources d_keys d_defaults d_usedKeys g16 g17 e_counter e_temporaries e_arguments g_count g_kept g_kinds g_positions ++ hW cI cM a_h_ad g18) := hD
            simp only [Option.some.injEq, Prod.mk.injEq] at h
            obtain ⟨e0, e1, e2, e3, e4, e5, e6, e7, e8, e9, e10⟩ := h
            exact kRetI hx hb hr hlk e0 (by rw [← hw1, ← e1, ← e2, ← e3, ← e4, ← e5, ← e6, ← e7, ← e8, ← e9, ← e10]; exact hP) hS dX8_declareMethod_114
          · have h := ifn h c14
            refine lv_bipush (v := (-3)) hx hb dX8_declareMethod_92 (by decide) ?_
            simp only [Option.some.injEq, Prod.mk.injEq] at h
            obtain ⟨e0, e1, e2, e3, e4, e5, e6, e7, e8, e9, e10⟩ := h
            exact kRetI hx hb hr hlk e0 (by rw [← hw1, ← e1, ← e2, ← e3, ← e4, ← e5, ← e6, ← e7, ← e8, ← e9, ← e10]; exact hP) hS dX8_declareMethod_94
        · have h := ifp h c13
          refine lv_bipush (v := (-2)) hx hb dX8_declareMethod_79 (by decide) ?_
          simp only [Option.some.injEq, Prod.mk.injEq] at h
          obtain ⟨e0, e1, e2, e3, e4, e5, e6, e7, e8, e9, e10⟩ := h
          exact kRetI hx hb hr hlk e0 (by rw [← hw1, ← e1, ← e2, ← e3, ← e4, ← e5, ← e6, ← e7, ← e8, ← e9, ← e10]; exact hP) hS dX8_declareMethod_81
    · have h := ifp h c5
      refine lv_iconst (v := (-1)) hx hb dX8_declareMethod_31 (by decide) ?_
      simp only [Option.some.injEq, Prod.mk.injEq] at h
      obtain ⟨e0, e1, e2, e3, e4, e5, e6, e7, e8, e9, e10⟩ := h
      exact kRetI hx hb hr hlk e0 (by rw [← hw1, ← e1, ← e2, ← e3, ← e4, ← e5, ← e6, ← e7, ← e8, ← e9, ← e10]; exact hP) hS dX8_declareMethod_32
set_option maxHeartbeats 8000000 in
set_option maxRecDepth 100000 in
theorem qX8_declareCall (l : Launch) (D : va_G) (cI cM : ClassId) (a_x a_x_hoistedOfCall a_o a_t a_t_supertypes a_m a_m_type a_m_name a_m_arity a_m_keys a_m_defaults a_k a_k_staticType a_k_dynamicType a_k_target a_k_argumentCounts a_k_temporaryCounts a_k_keys a_k_kinds a_k_values a_k_temporaryKinds a_k_newKinds a_k_newValues a_d a_d_sources a_d_keys a_d_defaults a_h a_h_saved a_e a_e_temporaries a_e_arguments a_g a_g_kinds a_g_positions : Nat) (a_h_ad : Nat → Nat → Nat) (x_hoistedOfCall : Nat → Int32) (t_count : Int32) (t_interfaceSet : Int32) (t_supertypes : Nat → Int32) (m_count : Int32) (m_type : Nat → Int32) (m_name : Nat → Int32) (m_arity : Nat → Int32) (m_keys : Nat → Int32) (m_defaults : Nat → Int32) (k_count : Int32) (k_frozenSet : Int32) (k_staticType : Nat → Int32) (k_dynamicType : Nat → Int32) (k_target : Nat → Int32) (k_argumentCounts : Nat → Int32) (k_temporaryCounts : Nat → Int32) (k_keys : Nat → Int32) (k_kinds : Nat → Int32) (k_values : Nat → Int32) (k_temporaryKinds : Nat → Int32) (k_newKinds : Nat → Int32) (k_newValues : Nat → Int32) (d_open : Int32) (d_method : Int32) (d_family : Int32) (d_oldCount : Int32) (d_keptSet : Int32) (d_count : Int32) (d_sources : Nat → Int32) (d_keys : Nat → Int32) (d_defaults : Nat → Int32) (d_usedKeys : Int32) (h_count : Int32) (h_next : Int32) (e_counter : Int32) (e_temporaries : Nat → Int32) (e_arguments : Nat → Int32) (g_count : Int32) (g_kept : Int32) (g_kinds : Nat → Int32) (g_positions : Nat → Int32) (h_hs : Nat → MS) (x1 : Int32) (x2 : Int32) (x3 : Int32) (x4 : Int32) (r : Int32) (r_k_count : Int32) (r_k_staticType : Nat → Int32) (r_k_dynamicType : Nat → Int32) (r_k_target : Nat → Int32) (r_k_argumentCounts : Nat → Int32) (r_k_temporaryCounts : Nat → Int32) (r_k_keys : Nat → Int32) (r_k_kinds : Nat → Int32) (r_k_values : Nat → Int32) (r_d_open : Int32) (r_h_count : Int32) (r_h_next : Int32) (r_h_hs : Nat → MS) (h : fX8_declareCall t_count t_interfaceSet t_supertypes m_count m_type m_name m_arity m_keys m_defaults k_count k_frozenSet k_staticType k_dynamicType k_target k_argumentCounts k_temporaryCounts k_keys k_kinds k_values k_temporaryKinds k_newKinds k_newValues d_open h_count h_next h_hs x1 x2 x3 x4 = some (r, r_k_count, r_k_staticType, r_k_dynamicType, r_k_target, r_k_argumentCounts, r_k_temporaryCounts, r_k_keys, r_k_kinds, r_k_values, r_d_open, r_h_count, r_h_next, r_h_hs)) : IM l yX8_declareCall wsX8_declareCall rmX8_declareCall D cI cM [.ref a_x, .int x1, .int x2, .int x3, .int x4] (W_x_o_t_m_k_d_h_e_g cI cM a_x a_x_hoistedOfCall a_o a_t a_t_supertypes a_m a_m_type a_m_name a_m_arity a_m_keys a_m_defaults a_k a_k_staticType a_k_dynamicType a_k_target a_k_argumentCounts a_k_temporaryCounts a_k_keys a_k_kinds a_k_values a_k_temporaryKinds a_k_newKinds a_k_newValues a_d a_d_sources a_d_keys a_d_defaults a_h a_h_saved a_e a_e_temporaries a_e_arguments a_g a_g_kinds a_g_positions a_h_ad x_hoistedOfCall t_count t_interfaceSet t_supertypes m_count m_type m_name m_arity m_keys m_defaults k_count k_frozenSet k_staticType k_dynamicType k_target k_argumentCounts k_temporaryCounts k_keys k_kinds k_values k_temporaryKinds k_newKinds k_newValues d_open d_method d_family d_oldCount d_keptSet d_count d_sources d_keys d_defaults d_usedKeys h_count h_next e_counter e_temporaries e_arguments g_count g_kept g_kinds g_positions ++ hW cI cM a_h_ad h_hs) (W_x_o_t_m_k_d_h_e_g cI cM a_x a_x_hoistedOfCall a_o a_t a_t_supertypes a_m a_m_type a_m_name a_m_arity a_m_keys a_m_defaults a_k a_k_staticType a_k_dynamicType a_k_target a_k_argumentCounts a_k_temporaryCounts a_k_keys a_k_kinds a_k_values a_k_temporaryKinds a_k_newKinds a_k_newValues a_d a_d_sources a_d_keys a_d_defaults a_h a_h_saved a_e a_e_temporaries a_e_arguments a_g a_g_kinds a_g_positions a_h_ad x_hoistedOfCall t_count t_interfaceSet t_supertypes m_count m_type m_name m_arity m_keys m_defaults r_k_count k_frozenSet r_k_staticType r_k_dynamicType r_k_target r_k_argumentCounts r_k_temporaryCounts r_k_keys r_k_kinds r_k_values k_temporaryKinds k_newKinds k_newValues r_d_open d_method d_family d_oldCount d_keptSet d_count d_sources d_keys d_defaults d_usedKeys r_h_count r_h_next e_counter e_temporaries e_arguments g_count g_kept g_kinds g_positions ++ hW cI cM a_h_ad r_h_hs) (some (.int r)) := by
  refine IM.of (cc := cX8_declareCall) (maxL := 7) (ret := (some .int)) (by decide) rfl (Nat.le_of_ble_eq_true rfl) ?_
  intro p e s m below meth c ls hx hb hr hml hown hts hlk hKK hP hD hS hl
  have hown : s.vm.findClass RX8 = some m.cls := hown
  have hl : lv_has ls 7 [(0, .ref a_x), (1, .int x1), (2, .int x2), (3, .int x3), (4, .int x4)] := hl
  generalize hav : ([.ref a_x, .int x1, .int x2, .int x3, .int x4] : List Value) = av at hts ⊢
  generalize hw1 : W_x_o_t_m_k_d_h_e_g cI cM a_x a_x_hoistedOfCall a_o a_t a_t_supertypes a_m a_m_type a_m_name a_m_arity a_m_keys a_m_defaults a_k a_k_staticType a_k_dynamicType a_k_target a_k_argumentCounts a_k_temporaryCounts a_k_keys a_k_kinds a_k_values a_k_temporaryKinds a_k_newKinds a_k_newValues a_d a_d_sources a_d_keys a_d_defaults a_h a_h_saved a_e a_e_temporaries a_e_arguments a_g a_g_kinds a_g_positions a_h_ad x_hoistedOfCall t_count t_interfaceSet t_supertypes m_count m_type m_name m_arity m_keys m_defaults r_k_count k_frozenSet r_k_staticType r_k_dynamicType r_k_target r_k_argumentCounts r_k_temporaryCounts r_k_keys r_k_kinds r_k_values k_temporaryKinds k_newKinds k_newValues r_d_open d_method d_family d_oldCount d_keptSet d_count d_sources d_keys d_defaults d_usedKeys r_h_count r_h_next e_counter e_temporaries e_arguments g_count g_kept g_kinds g_positions ++ hW cI cM a_h_ad r_h_hs = w1
  generalize hw0 : W_x_o_t_m_k_d_h_e_g cI cM a_x a_x_hoistedOfCall a_o a_t a_t_supertypes a_m a_m_type a_m_name a_m_arity a_m_keys a_m_defaults a_k a_k_staticType a_k_dynamicType a_k_target a_k_argumentCounts a_k_temporaryCounts a_k_keys a_k_kinds a_k_values a_k_temporaryKinds a_k_newKinds a_k_newValues a_d a_d_sources a_d_keys a_d_defaults a_h a_h_saved a_e a_e_temporaries a_e_arguments a_g a_g_kinds a_g_positions a_h_ad x_hoistedOfCall t_count t_interfaceSet t_supertypes m_count m_type m_name m_arity m_keys m_defaults k_count k_frozenSet k_staticType k_dynamicType k_target k_argumentCounts k_temporaryCounts k_keys k_kinds k_values k_temporaryKinds k_newKinds k_newValues d_open d_method d_family d_oldCount d_keptSet d_count d_sources d_keys d_defaults d_usedKeys h_count h_next e_counter e_temporaries e_arguments g_count g_kept g_kinds g_positions ++ hW cI cM a_h_ad h_hs = w0 at hD hS ⊢
  have hP : va_P D vwCl (W_x_o_t_m_k_d_h_e_g cI cM a_x a_x_hoistedOfCall a_o a_t a_t_supertypes a_m a_m_type a_m_name a_m_arity a_m_keys a_m_defaults a_k a_k_staticType a_k_dynamicType a_k_target a_k_argumentCounts a_k_temporaryCounts a_k_keys a_k_kinds a_k_values a_k_temporaryKinds a_k_newKinds a_k_newValues a_d a_d_sources a_d_keys a_d_defaults a_h a_h_saved a_e a_e_temporaries a_e_arguments a_g a_g_kinds a_g_positions a_h_ad x_hoistedOfCall t_count t_interfaceSet t_supertypes m_count m_type m_name m_arity m_keys m_defaults k_count k_frozenSet k_staticType k_dynamicType k_target k_argumentCounts k_temporaryCounts k_keys k_kinds k_values k_temporaryKinds k_newKinds k_newValues d_open d_method d_family d_oldCount d_keptSet d_count d_sources d_keys d_defaults d_usedKeys h_count h_next e_counter e_temporaries e_arguments g_count g_kept g_kinds g_positions ++ hW cI cM a_h_ad h_hs) s.heap := hP
  have hD : va_D (fun q => q ∈ w0.map (·.1)) (W_x_o_t_m_k_d_h_e_g cI cM a_x a_x_hoistedOfCall a_o a_t a_t_supertypes a_m a_m_type a_m_name a_m_arity a_m_keys a_m_defaults a_k a_k_staticType a_k_dynamicType a_k_target a_k_argumentCounts a_k_temporaryCounts a_k_keys a_k_kinds a_k_values a_k_temporaryKinds a_k_newKinds a_k_newValues a_d a_d_sources a_d_keys a_d_defaults a_h a_h_saved a_e a_e_temporaries a_e_arguments a_g a_g_kinds a_g_positions a_h_ad x_hoistedOfCall t_count t_interfaceSet t_supertypes m_count m_type m_name m_arity m_keys m_defaults k_count k_frozenSet k_staticType k_dynamicType k_target k_argumentCounts k_temporaryCounts k_keys k_kinds k_values k_temporaryKinds k_newKinds k_newValues d_open d_method d_family d_oldCount d_keptSet d_count d_sources d_keys d_defaults d_usedKeys h_count h_next e_counter e_temporaries e_arguments g_count g_kept g_kinds g_positions ++ hW cI cM a_h_ad h_hs) := by rw [hw0]; exact hD
  have SS : CallFix p m c cX8_declareCall 7 s av.toArray wsX8_declareCall RX8 := ⟨hx, hb, hml, hown, hts⟩
  have hinX0 : ∀ w ∈ u_ws RX0 TX0 13, w ∈ wsX8_declareCall := by decide +kernel
  have hinX6 : ∀ w ∈ u_ws RX6 TX6 3, w ∈ wsX8_declareCall := by decide +kernel
  have hinX8 : ∀ w ∈ u_ws RX8 TX8 6, w ∈ wsX8_declareCall := by decide +kernel
  have lk10 := hts (.fieldLink RX8 10 "SignatureChanger" "model" "LSignatureChanger$Model;") (List.mem_of_getElem? (i := 1) rfl)
  have lk48 := hts (.fieldLink RX8 48 "SignatureChanger$Model" "types" "LSignatureChanger$Types;") (List.mem_of_getElem? (i := 2) rfl)
  have lk66 := hts (.fieldLink RX8 66 "SignatureChanger$Model" "methods" "LSignatureChanger$Methods;") (List.mem_of_getElem? (i := 5) rfl)
  have lk124 := hts (.fieldLink RX8 124 "SignatureChanger$Model" "calls" "LSignatureChanger$Calls;") (List.mem_of_getElem? (i := 3) rfl)
  have lk128 := hts (.fieldLink RX8 128 "SignatureChanger$Calls" "count" "I") (List.mem_of_getElem? (i := 4) rfl)
  have cw79 : CallW rmX8_declareCall s av.toArray RX8 RX8 79 yX8_beginEdit cX8_beginEdit 1 none wsX8_beginEdit rmX8_beginEdit 0 0 0 := cwV 0 hts gX8_declareCall_X8_beginEdit rfl rfl rfl (by decide +kernel) ⟨Nat.le_of_ble_eq_true rfl, Nat.le_of_ble_eq_true rfl⟩
  have cw85 : CallW rmX8_declareCall s av.toArray RX8 RX7 85 yX7_exists cX7_exists 2 (some .boolean) wsX7_exists rmX7_exists 0 0 1 := cwV 1 hts gX8_declareCall_X7_exists rfl rfl rfl (by decide +kernel) ⟨Nat.le_of_ble_eq_true rfl, Nat.le_of_ble_eq_true rfl⟩
  have cw88 : CallB rmX8_declareCall s av.toArray RX8 88 yX8_isSignature cX8_isSignature 2 (some .boolean) wsX8_isSignature rmX8_isSignature 0 0 2 ∧ (Cond.static yX8_isSignature).before av.toArray s = true := va_cwS 2 hts gX8_declareCall_X8_isSignature rfl rfl rfl (by decide +kernel) ⟨Nat.le_of_ble_eq_true rfl, Nat.le_of_ble_eq_true rfl⟩
  have cw115 : CallW rmX8_declareCall s av.toArray RX8 RX6 115 yX6_targetFor cX6_targetFor 4 (some .int) wsX6_targetFor rmX6_targetFor 0 0 3 := cwV 3 hts gX8_declareCall_X6_targetFor rfl rfl rfl (by decide +kernel) ⟨Nat.le_of_ble_eq_true rfl, Nat.le_of_ble_eq_true rfl⟩
  have cw118 : CallW rmX8_declareCall s av.toArray RX8 RX7 118 yX7_isClass cX7_isClass 2 (some .boolean) wsX7_isClass rmX7_isClass 0 0 1 := cwV 1 hts gX8_declareCall_X7_isClass rfl rfl rfl (by decide +kernel) ⟨Nat.le_of_ble_eq_true rfl, Nat.le_of_ble_eq_true rfl⟩
  have cw121 : CallW rmX8_declareCall s av.toArray RX8 RX7 121 yX7_inherits cX7_inherits 3 (some .boolean) wsX7_inherits rmX7_inherits 0 0 2 := cwV 2 hts gX8_declareCall_X7_inherits rfl rfl rfl (by decide +kernel) ⟨Nat.le_of_ble_eq_true rfl, Nat.le_of_ble_eq_true rfl⟩
  have cw131 : CallW rmX8_declareCall s av.toArray RX8 RX0 131 yX0_add cX0_add 7 (some .int) wsX0_add rmX0_add 0 0 4 := cwV 4 hts gX8_declareCall_X0_add rfl rfl rfl (by decide +kernel) ⟨Nat.le_of_ble_eq_true rfl, Nat.le_of_ble_eq_true rfl⟩
  unfold fX8_declareCall at h
  refine lv_aload_n hx hb dX8_declareCall_0 rfl (lv_at hl 0 rfl) ?_
  refine va_get (D := D) (ci := 8) (v := .ref a_o) (C := RX8) (T := TX8) (N := 6) hx hb hts hinX8 hown hKK.1 hP 0 rfl rfl 0 (by decide) lk10 (fun _ h9 => h9) rfl dX8_declareCall_1 ?_
  refine va_get (D := D) (ci := 6) (v := .ref a_t) (C := RX6) (T := TX6) (N := 3) hx hb hts hinX6 hown hKK.1 hP 2 rfl rfl 0 (by decide) lk48 (fun _ h9 => h9) rfl dX8_declareCall_4 ?_
  refine lv_astore (lv' := [(5, .ref a_t), (0, .ref a_x), (1, .int x1), (2, .int x2), (3, .int x3), (4, .int x4)]) hx hb dX8_declareCall_7 hl (by decide) rfl (fun ls hl => ?_)
  refine lv_aload hx hb dX8_declareCall_9 (lv_at hl 0 rfl) ?_
  refine lv_iload_n hx hb dX8_declareCall_11 rfl (lv_at hl 2 rfl) ?_
  obtain ⟨v1, ev1, h⟩ := bn_some h
  have hs2 : va_P D vwCl (W_t cI cM a_t a_t_supertypes t_count t_interfaceSet t_supertypes) _ := blkP (Bs := [B_x cI cM a_x a_x_hoistedOfCall a_o a_d a_h a_e a_g x_hoistedOfCall, B_o cI cM a_o a_t a_m a_k , B_t cI cM a_t a_t_supertypes t_count t_interfaceSet t_supertypes, B_m cI cM a_m a_m_type a_m_name a_m_arity a_m_keys a_m_defaults m_count m_type m_name m_arity m_keys m_defaults, B_k cI cM a_k a_k_staticType a_k_dynamicType a_k_target a_k_argumentCounts a_k_temporaryCounts a_k_keys a_k_kinds a_k_values a_k_temporaryKinds a_k_newKinds a_k_newValues k_count k_frozenSet k_staticType k_dynamicType k_target k_argumentCounts k_temporaryCounts k_keys k_kinds k_values k_temporaryKinds k_newKinds k_newValues, B_d cI cM a_d a_d_sources a_d_keys a_d_defaults d_open d_method d_family d_oldCount d_keptSet d_count d_sources d_keys d_defaults d_usedKeys, B_h cI cM a_h a_h_saved a_h_ad h_count h_next, B_e cI cM a_e a_e_temporaries a_e_arguments e_counter e_temporaries e_arguments, B_g cI cM a_g a_g_kinds a_g_positions g_count g_kept g_kinds g_positions, hW cI cM a_h_ad h_hs]) hP [2] (C0 := [B_t cI cM a_t a_t_supertypes t_count t_interfaceSet t_supertypes]) rfl rfl
  refine kV (As := [.int x1]) (rest := []) SS hKK (qX7_exists l D cI cM a_t a_t_supertypes t_count t_interfaceSet t_supertypes x1 v1 ev1) cw85 hs2 0 7 rfl rfl rfl hl.1 rfl (Nat.le_of_ble_eq_true rfl) dX8_declareCall_12 ⟨Nat.zero_le _, Nat.zero_le _⟩ ?_
  refine lv_if_eq (tgt := 36) hx hb dX8_declareCall_15 (by decide) (fun c3 => ?_) (fun c3 => ?_)
  · have h := ifp h c3
    refine lv_iconst (v := (-1)) hx hb dX8_declareCall_36 (by decide) ?_
    simp only [Option.some.injEq, Prod.mk.injEq] at h
    obtain ⟨e0, e1, e2, e3, e4, e5, e6, e7, e8, e9, e10, e11, e12, e13⟩ := h
    exact kRetI hx hb hr hlk e0 (by rw [← hw1, ← e1, ← e2, ← e3, ← e4, ← e5, ← e6, ← e7, ← e8, ← e9, ← e10, ← e11, ← e12, ← e13]; exact hP) hS dX8_declareCall_37
  · have h := ifn h c3
    refine lv_aload hx hb dX8_declareCall_18 (lv_at hl 0 rfl) ?_
    refine lv_iload_n hx hb dX8_declareCall_20 rfl (lv_at hl 3 rfl) ?_
    obtain ⟨v4, ev4, h⟩ := bn_some h
    refine kV (As := [.int x2]) (rest := []) SS hKK (qX7_exists l D cI cM a_t a_t_supertypes t_count t_interfaceSet t_supertypes x2 v4 ev4) cw85 hs2 0 7 rfl rfl rfl hl.1 rfl (Nat.le_of_ble_eq_true rfl) dX8_declareCall_21 ⟨Nat.zero_le _, Nat.zero_le _⟩ ?_
    refine lv_if_eq (tgt := 36) hx hb dX8_declareCall_24 (by decide) (fun c5 => ?_) (fun c5 => ?_)
    · have h := ifp h c5
      refine lv_iconst (v := (-1)) hx hb dX8_declareCall_36 (by decide) ?_
      simp only [Option.some.injEq, Prod.mk.injEq] at h
      obtain ⟨e0, e1, e2, e3, e4, e5, e6, e7, e8, e9, e10, e11, e12, e13⟩ := h
      exact kRetI hx hb hr hlk e0 (by rw [← hw1, ← e1, ← e2, ← e3, ← e4, ← e5, ← e6, ← e7, ← e8, ← e9, ← e10, ← e11, ← e12, ← e13]; exact hP) hS dX8_declareCall_37
    · have h := ifn h c5
      refine lv_iload_n hx hb dX8_declareCall_27 rfl (lv_at hl 4 rfl) ?_
      refine lv_iload hx hb dX8_declareCall_28 (lv_at hl 5 rfl) ?_
      obtain ⟨v6, ev6, h⟩ := bn_some h
      refine kS (As := [.int x3, .int x4]) (rest := []) SS hKK (qX8_isSignature l D cI cM x3 x4 v6 ev6) cw88 va_P_nil rfl hl.1 rfl (Nat.le_of_ble_eq_true rfl) dX8_declareCall_30 ⟨Nat.zero_le _, Nat.zero_le _⟩ ?_
      refine lv_if_ne (tgt := 38) hx hb dX8_declareCall_33 (by decide) (fun c7 => ?_) (fun c7 => ?_)
      · have h := ifn h c7
        refine lv_aload_n hx hb dX8_declareCall_38 rfl (lv_at hl 1 rfl) ?_
        refine va_get (D := D) (ci := 8) (v := .ref a_o) (C := RX8) (T := TX8) (N := 6) hx hb hts hinX8 hown hKK.1 hP 0 rfl rfl 0 (by decide) lk10 (fun _ h9 => h9) rfl dX8_declareCall_39 ?_
        refine lv_iload_n hx hb dX8_declareCall_42 rfl (lv_at hl 2 rfl) ?_
        refine lv_iload_n hx hb dX8_declareCall_43 rfl (lv_at hl 4 rfl) ?_
        refine lv_iload hx hb dX8_declareCall_44 (lv_at hl 5 rfl) ?_
        obtain ⟨v8, ev8, h⟩ := bn_some h
        have hs9 : va_P D vwCl (W_o_t_m_k cI cM a_o a_t a_t_supertypes a_m a_m_type a_m_name a_m_arity a_m_keys a_m_defaults a_k a_k_staticType a_k_dynamicType a_k_target a_k_argumentCounts a_k_temporaryCounts a_k_keys a_k_kinds a_k_values a_k_temporaryKinds a_k_newKinds a_k_newValues t_count t_interfaceSet t_supertypes m_count m_type m_name m_arity m_keys m_defaults k_count k_frozenSet k_staticType k_dynamicType k_target k_argumentCounts k_temporaryCounts k_keys k_kinds k_values k_temporaryKinds k_newKinds k_newValues) _ := blkP (Bs := [B_x cI cM a_x a_x_hoistedOfCall a_o a_d a_h a_e a_g x_hoistedOfCall, B_o cI cM a_o a_t a_m a_k , B_t cI cM a_t a_t_supertypes t_count t_interfaceSet t_supertypes, B_m cI cM a_m a_m_type a_m_name a_m_arity a_m_keys a_m_defaults m_count m_type m_name m_arity m_keys m_defaults, B_k cI cM a_k a_k_staticType a_k_dynamicType a_k_target a_k_argumentCounts a_k_temporaryCounts a_k_keys a_k_kinds a_k_values a_k_temporaryKinds a_k_newKinds a_k_newValues k_count k_frozenSet k_staticType k_dynamicType k_target k_argumentCounts k_temporaryCounts k_keys k_kinds k_values k_temporaryKinds k_newKinds k_newValues, B_d cI cM a_d a_d_sources a_d_keys a_d_defaults d_open d_method d_family d_oldCount d_keptSet d_count d_sources d_keys d_defaults d_usedKeys, B_h cI cM a_h a_h_saved a_h_ad h_count h_next, B_e cI cM a_e a_e_temporaries a_e_arguments e_counter e_temporaries e_arguments, B_g cI cM a_g a_g_kinds a_g_positions g_count g_kept g_kinds g_positions, hW cI cM a_h_ad h_hs]) hP [1, 2, 3, 4] (C0 := [B_o cI cM a_o a_t a_m a_k , B_t cI cM a_t a_t_supertypes t_count t_interfaceSet t_supertypes, B_m cI cM a_m a_m_type a_m_name a_m_arity a_m_keys a_m_defaults m_count m_type m_name m_arity m_keys m_defaults, B_k cI cM a_k a_k_staticType a_k_dynamicType a_k_target a_k_argumentCounts a_k_temporaryCounts a_k_keys a_k_kinds a_k_values a_k_temporaryKinds a_k_newKinds a_k_newValues k_count k_frozenSet k_staticType k_dynamicType k_target k_argumentCounts k_temporaryCounts k_keys k_kinds k_values k_temporaryKinds k_newKinds k_newValues]) rfl rfl
        refine kV (As := [.int x1, .int x3, .int x4]) (rest := []) SS hKK (qX6_targetFor l D cI cM a_o a_t a_t_supertypes a_m a_m_type a_m_name a_m_arity a_m_keys a_m_defaults a_k a_k_staticType a_k_dynamicType a_k_target a_k_argumentCounts a_k_temporaryCounts a_k_keys a_k_kinds a_k_values a_k_temporaryKinds a_k_newKinds a_k_newValues t_count t_interfaceSet t_supertypes m_count m_type m_name m_arity m_keys m_defaults k_count k_frozenSet k_staticType k_dynamicType k_target k_argumentCounts k_temporaryCounts k_keys k_kinds k_values k_temporaryKinds k_newKinds k_newValues x1 x3 x4 v8 ev8) cw115 hs9 0 6 rfl rfl rfl hl.1 rfl (Nat.le_of_ble_eq_true rfl) dX8_declareCall_46 ⟨Nat.zero_le _, Nat.zero_le _⟩ ?_
        refine lv_istore (lv' := [(6, .int v8), (5, .ref a_t), (0, .ref a_x), (1, .int x1), (2, .int x2), (3, .int x3), (4, .int x4)]) hx hb dX8_declareCall_49 hl (by decide) rfl (fun ls hl => ?_)
        refine lv_aload hx hb dX8_declareCall_51 (lv_at hl 1 rfl) ?_
        refine lv_iload_n hx hb dX8_declareCall_53 rfl (lv_at hl 4 rfl) ?_
        obtain ⟨v10, ev10, h⟩ := bn_some h
        refine kV (As := [.int x2]) (rest := []) SS hKK (qX7_isClass l D cI cM a_t a_t_supertypes t_count t_interfaceSet t_supertypes x2 v10 ev10) cw118 hs2 0 7 rfl rfl rfl hl.1 rfl (Nat.le_of_ble_eq_true rfl) dX8_declareCall_54 ⟨Nat.zero_le _, Nat.zero_le _⟩ ?_
        refine lv_if_eq (tgt := 77) hx hb dX8_declareCall_57 (by decide) (fun c11 => ?_) (fun c11 => ?_)
        · have h := ifp h c11
          refine lv_bipush (v := (-2)) hx hb dX8_declareCall_77 (by decide) ?_
          simp only [Option.some.injEq, Prod.mk.injEq] at h
          obtain ⟨e0, e1, e2, e3, e4, e5, e6, e7, e8, e9, e10, e11, e12, e13⟩ := h
          exact kRetI hx hb hr hlk e0 (by rw [← hw1, ← e1, ← e2, ← e3, ← e4, ← e5, ← e6, ← e7, ← e8, ← e9, ← e10, ← e11, ← e12, ← e13]; exact hP) hS dX8_declareCall_79
        · have h := ifn h c11
          refine lv_aload hx hb dX8_declareCall_60 (lv_at hl 1 rfl) ?_
          refine lv_iload_n hx hb dX8_declareCall_62 rfl (lv_at hl 4 rfl) ?_
          refine lv_iload_n hx hb dX8_declareCall_63 rfl (lv_at hl 3 rfl) ?_
          obtain ⟨v12, ev12, h⟩ := bn_some h
          refine kV (As := [.int x2, .int x1]) (rest := []) SS hKK (qX7_inherits l D cI cM a_t a_t_supertypes t_count t_interfaceSet t_supertypes x2 x1 v12 ev12) cw121 hs2 0 7 rfl rfl rfl hl.1 rfl (Nat.le_of_ble_eq_true rfl) dX8_declareCall_64 ⟨Nat.zero_le _, Nat.zero_le _⟩ ?_
          refine lv_if_eq (tgt := 77) hx hb dX8_declareCall_67 (by decide) (fun c13 => ?_) (fun c13 => ?_)
          · have h := ifp h c13
            refine lv_bipush (v := (-2)) hx hb dX8_declareCall_77 (by decide) ?_
            simp only [Option.some.injEq, Prod.mk.injEq] at h
            obtain ⟨e0, e1, e2, e3, e4, e5, e6, e7, e8, e9, e10, e11, e12, e13⟩ := h
            exact kRetI hx hb hr hlk e0 (by rw [← hw1, ← e1, ← e2, ← e3, ← e4, ← e5, ← e6, ← e7, ← e8, ← e9, ← e10, ← e11, ← e12, ← e13]; exact hP) hS dX8_declareCall_79
          · have h := ifn h c13
            refine lv_iload hx hb dX8_declareCall_70 (lv_at hl 0 rfl) ?_
            refine lv_bipush (v := (-9)) hx hb dX8_declareCall_72 (by decide) ?_
            refine lv_icmp_ne (tgt := 80) hx hb dX8_declareCall_74 (by decide) (fun c14 => ?_) (fun c14 => ?_)
            · have h := ifn h c14
              refine lv_aload_n hx hb dX8_declareCall_80 rfl (lv_at hl 2 rfl) ?_
              refine va_get (D := D) (ci := 8) (v := .ref a_o) (C := RX8) (T := TX8) (N := 6) hx hb hts hinX8 hown hKK.1 hP 0 rfl rfl 0 (by decide) lk10 (fun _ h9 => h9) rfl dX8_declareCall_81 ?_
              refine va_get (D := D) (ci := 6) (v := .ref a_k) (C := RX6) (T := TX6) (N := 3) hx hb hts hinX6 hown hKK.1 hP 2 rfl rfl 2 (by decide) lk124 (fun _ h9 => h9) rfl dX8_declareCall_84 ?_
              refine va_get (D := D) (ci := 0) (v := .int k_count) (C := RX0) (T := TX0) (N := 13) hx hb hts hinX0 hown hKK.1 hP 11 rfl rfl 0 (by decide) lk128 (fun _ h9 => h9) rfl dX8_declareCall_87 ?_
              refine lv_bipush (v := 8) hx hb dX8_declareCall_90 (by decide) ?_
              refine lv_icmp_lt (tgt := 98) hx hb dX8_declareCall_92 (by decide) (fun c15 => ?_) (fun c15 => ?_)
              · have h := ifp h c15
                refine lv_aload_n hx hb dX8_declareCall_98 rfl (lv_at hl 2 rfl) ?_
                obtain ⟨g16, g17, g18, g19, eg16, h⟩ := bn4_some h
                refine kVB (As := []) (rest := []) (st1 := []) (Bs := [B_x cI cM a_x a_x_hoistedOfCall a_o a_d a_h a_e a_g x_hoistedOfCall, B_o cI cM a_o a_t a_m a_k , B_t cI cM a_t a_t_supertypes t_count t_interfaceSet t_supertypes, B_m cI cM a_m a_m_type a_m_name a_m_arity a_m_keys a_m_defaults m_count m_type m_name m_arity m_keys m_defaults, B_k cI cM a_k a_k_staticType a_k_dynamicType a_k_target a_k_argumentCounts a_k_temporaryCounts a_k_keys a_k_kinds a_k_values a_k_temporaryKinds a_k_newKinds a_k_newValues k_count k_frozenSet k_staticType k_dynamicType k_target k_argumentCounts k_temporaryCounts k_keys k_kinds k_values k_temporaryKinds k_newKinds k_newValues, B_d cI cM a_d a_d_sources a_d_keys a_d_defaults d_open d_method d_family d_oldCount d_keptSet d_count d_sources d_keys d_defaults d_usedKeys, B_h cI cM a_h a_h_saved a_h_ad h_count h_next, B_e cI cM a_e a_e_temporaries a_e_arguments e_counter e_temporaries e_arguments, B_g cI cM a_g a_g_kinds a_g_positions g_count g_kept g_kinds g_positions, hW cI cM a_h_ad h_hs]) (Bs1 := [B_x cI cM a_x a_x_hoistedOfCall a_o a_d a_h a_e a_g x_hoistedOfCall, B_o cI cM a_o a_t a_m a_k , B_t cI cM a_t a_t_supertypes t_count t_interfaceSet t_supertypes, B_m cI cM a_m a_m_type a_m_name a_m_arity a_m_keys a_m_defaults m_count m_type m_name m_arity m_keys m_defaults, B_k cI cM a_k a_k_staticType a_k_dynamicType a_k_target a_k_argumentCounts a_k_temporaryCounts a_k_keys a_k_kinds a_k_values a_k_temporaryKinds a_k_newKinds a_k_newValues k_count k_frozenSet k_staticType k_dynamicType k_target k_argumentCounts k_temporaryCounts k_keys k_kinds k_values k_temporaryKinds k_newKinds k_newValues, B_d cI cM a_d a_d_sources a_d_keys a_d_defaults g16 d_method d_family d_oldCount d_keptSet d_count d_sources d_keys d_defaults d_usedKeys, B_h cI cM a_h a_h_saved a_h_ad g17 g18, B_e cI cM a_e a_e_temporaries a_e_arguments e_counter e_temporaries e_arguments, B_g cI cM a_g a_g_kinds a_g_positions g_count g_kept g_kinds g_positions, hW cI cM a_h_ad g19]) SS hKK (qX8_beginEdit l D cI cM a_x a_x_hoistedOfCall a_o a_t a_t_supertypes a_m a_m_type a_m_name a_m_arity a_m_keys a_m_defaults a_k a_k_staticType a_k_dynamicType a_k_target a_k_argumentCounts a_k_temporaryCounts a_k_keys a_k_kinds a_k_values a_k_temporaryKinds a_k_newKinds a_k_newValues a_d a_d_sources a_d_keys a_d_defaults a_h a_h_saved a_e a_e_temporaries a_e_arguments a_g a_g_kinds a_g_positions a_h_ad x_hoistedOfCall t_count t_interfaceSet t_supertypes m_count m_type m_name m_arity m_keys m_defaults k_count k_frozenSet k_staticType k_dynamicType k_target k_argumentCounts k_temporaryCounts k_keys k_kinds k_values k_temporaryKinds k_newKinds k_newValues d_open d_method d_family d_oldCount d_keptSet d_count d_sources d_keys d_defaults d_usedKeys h_count h_next e_counter e_temporaries e_arguments g_count g_kept g_kinds g_positions h_hs g16 g17 g18 g19 eg16) cw79 hP hD hS (isC := [0, 1, 2, 3, 4, 5, 6, 7, 8, 9]) (isR := []) (C0 := [B_x cI cM a_x a_x_hoistedOfCall a_o a_d a_h a_e a_g x_hoistedOfCall, B_o cI cM a_o a_t a_m a_k , B_t cI cM a_t a_t_supertypes t_count t_interfaceSet t_supertypes, B_m cI cM a_m a_m_type a_m_name a_m_arity a_m_keys a_m_defaults m_count m_type m_name m_arity m_keys m_defaults, B_k cI cM a_k a_k_staticType a_k_dynamicType a_k_target a_k_argumentCounts a_k_temporaryCounts a_k_keys a_k_kinds a_k_values a_k_temporaryKinds a_k_newKinds a_k_newValues k_count k_frozenSet k_staticType k_dynamicType k_target k_argumentCounts k_temporaryCounts k_keys k_kinds k_values k_temporaryKinds k_newKinds k_newValues, B_d cI cM a_d a_d_sources a_d_keys a_d_defaults d_open d_method d_family d_oldCount d_keptSet d_count d_sources d_keys d_defaults d_usedKeys, B_h cI cM a_h a_h_saved a_h_ad h_count h_next, B_e cI cM a_e a_e_temporaries a_e_arguments e_counter e_temporaries e_arguments, B_g cI cM a_g a_g_kinds a_g_positions g_count g_kept g_kinds g_positions, hW cI cM a_h_ad h_hs]) (C1 := [B_x cI cM a_x a_x_hoistedOfCall a_o a_d a_h a_e a_g x_hoistedOfCall, B_o cI cM a_o a_t a_m a_k , B_t cI cM a_t a_t_supertypes t_count t_interfaceSet t_supertypes, B_m cI cM a_m a_m_type a_m_name a_m_arity a_m_keys a_m_defaults m_count m_type m_name m_arity m_keys m_defaults, B_k cI cM a_k a_k_staticType a_k_dynamicType a_k_target a_k_argumentCounts a_k_temporaryCounts a_k_keys a_k_kinds a_k_values a_k_temporaryKinds a_k_newKinds a_k_newValues k_count k_frozenSet k_staticType k_dynamicType k_target k_argumentCounts k_temporaryCounts k_keys k_kinds k_values k_temporaryKinds k_newKinds k_newValues, B_d cI cM a_d a_d_sources a_d_keys a_d_defaults g16 d_method d_family d_oldCount d_keptSet d_count d_sources d_keys d_defaults d_usedKeys, B_h cI cM a_h a_h_saved a_h_ad g17 g18, B_e cI cM a_e a_e_temporaries a_e_arguments e_counter e_temporaries e_arguments, B_g cI cM a_g a_g_kinds a_g_positions g_count g_kept g_kinds g_positions, hW cI cM a_h_ad g19]) (Rr := []) (show (List.range 10).Perm ([0, 1, 2, 3, 4, 5, 6, 7, 8, 9] ++ []) by decide) rfl rfl rfl rfl rfl rfl rfl (hW_addr rfl) 0 8 rfl rfl rfl hl.1 rfl (Nat.le_of_ble_eq_true rfl) dX8_declareCall_99 ⟨Nat.zero_le _, Nat.zero_le _⟩ rfl (fun H locs hP hD hS => ?_)
                have hP : va_P D vwCl (W_x_o_t_m_k_d_h_e_g cI cM a_x a_x_hoistedOfCall a_o a_t a_t_supertypes a_m a_m_type a_m_name a_m_arity a_m_keys a_m_defaults a_k a_k_staticType a_k_dynamicType a_k_target a_k_argumentCounts a_k_temporaryCounts a_k_keys a_k_kinds a_k_values a_k_temporaryKinds a_k_newKinds a_k_newValues a_d a_d_sources a_d_keys a_d_defaults a_h a_h_saved a_e a_e_temporaries a_e_arguments a_g a_g_kinds a_g_positions a_h_ad x_hoistedOfCall t_count t_interfaceSet t_supertypes m_count m_type m_name m_arity m_keys m_defaults k_count k_frozenSet k_staticType k_dynamicType k_target k_argumentCounts k_temporaryCounts k_keys k_kinds k_values k_temporaryKinds k_newKinds k_newValues g16 d_method d_family d_oldCount d_keptSet d_count d_sources d_keys d_defaults d_usedKeys g17 g18 e_counter e_temporaries e_arguments g_count g_kept g_kinds g_positions ++ hW cI cM a_h_ad g19) H := hP
                have hD : va_D _ (W_x_o_t_m_k_d_h_e_g cI cM a_x a_x_hoistedOfCall a_o a_t a_t_supertypes a_m a_m_type a_m_name a_m_arity a_m_keys a_m_defaults a_k a_k_staticType a_k_dynamicType a_k_target a_k_argumentCounts a_k_temporaryCounts a_k_keys a_k_kinds a_k_values a_k_temporaryKinds a_k_newKinds a_k_newValues a_d a_d_sources a_d_keys a_d_defaults a_h a_h_saved a_e a_e_temporaries a_e_arguments a_g a_g_kinds a_g_positions a_h_ad x_hoistedOfCall t_count t_interfaceSet t_supertypes m_count m_type m_name m_arity m_keys m_defaults k_count k_frozenSet k_staticType k_dynamicType k_target k_argumentCounts k_temporaryCounts k_keys k_kinds k_values k_temporaryKinds k_newKinds k_newValues g16 d_method d_family d_oldCount d_keptSet d_count d_sources d_keys d_defaults d_usedKeys g17 g18 e_counter e_temporaries e_arguments g_count g_kept g_kinds g_positions ++ hW cI cM a_h_ad g19) := hD
                refine lv_aload_n hx hb dX8_declareCall_102 rfl (lv_at hl 2 rfl) ?_
                refine va_get (D := D) (ci := 8) (v := .ref a_o) (C := RX8) (T := TX8) (N := 6) hx hb hts hinX8 hown hKK.1 hP 0 rfl rfl 0 (by decide) lk10 (fun _ h9 => h9) rfl dX8_declareCall_103 ?_
                refine va_get (D := D) (ci := 6) (v := .ref a_k) (C := RX6) (T := TX6) (N := 3) hx hb hts hinX6 hown hKK.1 hP 2 rfl rfl 2 (by decide) lk124 (fun _ h9 => h9) rfl dX8_declareCall_106 ?_
                refine lv_iload_n hx hb dX8_declareCall_109 rfl (lv_at hl 3 rfl) ?_
                refine lv_iload_n hx hb dX8_declareCall_110 rfl (lv_at hl 4 rfl) ?_
                refine lv_iload hx hb dX8_declareCall_111 (lv_at hl 0 rfl) ?_
                refine lv_aload_n hx hb dX8_declareCall_113 rfl (lv_at hl 2 rfl) ?_
                refine va_get (D := D) (ci := 8) (v := .ref a_o) (C := RX8) (T := TX8) (N := 6) hx hb hts hinX8 hown hKK.1 hP 0 rfl rfl 0 (by decide) lk10 (fun _ h9 => h9) rfl dX8_declareCall_114 ?_
                refine va_get (D := D) (ci := 6) (v := .ref a_m) (C := RX6) (T := TX6) (N := 3) hx hb hts hinX6 hown hKK.1 hP 2 rfl rfl 1 (by decide) lk66 (fun _ h9 => h9) rfl dX8_declareCall_117 ?_
                obtain ⟨v20, g21, g22, g23, g24, g25, g26, g27, g28, g29, ev20, h⟩ := bn10_some h
                refine kVB (As := [.int x1, .int x2, .int v8, .ref a_m]) (rest := []) (st1 := [.int v20]) (Bs := [B_x cI cM a_x a_x_hoistedOfCall a_o a_d a_h a_e a_g x_hoistedOfCall, B_o cI cM a_o a_t a_m a_k , B_t cI cM a_t a_t_supertypes t_count t_interfaceSet t_supertypes, B_m cI cM a_m a_m_type a_m_name a_m_arity a_m_keys a_m_defaults m_count m_type m_name m_arity m_keys m_defaults, B_k cI cM a_k a_k_staticType a_k_dynamicType a_k_target a_k_argumentCounts a_k_temporaryCounts a_k_keys a_k_kinds a_k_values a_k_temporaryKinds a_k_newKinds a_k_newValues k_count k_frozenSet k_staticType k_dynamicType k_target k_argumentCounts k_temporaryCounts k_keys k_kinds k_values k_temporaryKinds k_newKinds k_newValues, B_d cI cM a_d a_d_sources a_d_keys a_d_defaults g16 d_method d_family d_oldCount d_keptSet d_count d_sources d_keys d_defaults d_usedKeys, B_h cI cM a_h a_h_saved a_h_ad g17 g18, B_e cI cM a_e a_e_temporaries a_e_arguments e_counter e_temporaries e_arguments, B_g cI cM a_g a_g_kinds a_g_positions g_count g_kept g_kinds g_positions, hW cI cM a_h_ad g19]) (Bs1 := [B_x cI cM a_x a_x_hoistedOfCall a_o a_d a_h a_e a_g x_hoistedOfCall, B_o cI cM a_o a_t a_m a_k , B_t cI cM a_t a_t_supertypes t_count t_interfaceSet t_supertypes, B_m cI cM a_m a_m_type a_m_name a_m_arity a_m_keys a_m_defaults m_count m_type m_name m_arity m_keys m_defaults, B_k cI cM a_k a_k_staticType a_k_dynamicType a_k_target a_k_argumentCounts a_k_temporaryCounts a_k_keys a_k_kinds a_k_values a_k_temporaryKinds a_k_newKinds a_k_newValues g21 k_frozenSet g22 g23 g24 g25 g26 g27 g28 g29 k_temporaryKinds k_newKinds k_newValues, B_d cI cM a_d a_d_sources a_d_keys a_d_defaults g16 d_method d_family d_oldCount d_keptSet d_count d_sources d_keys d_defaults d_usedKeys, B_h cI cM a_h a_h_saved a_h_ad g17 g18, B_e cI cM a_e a_e_temporaries a_e_arguments e_counter e_temporaries e_arguments, B_g cI cM a_g a_g_kinds a_g_positions g_count g_kept g_kinds g_positions, hW cI cM a_h_ad g19]) SS hKK (qX0_add l D cI cM a_k a_k_staticType a_k_dynamicType a_k_target a_k_argumentCounts a_k_temporaryCounts a_k_keys a_k_kinds a_k_values a_k_temporaryKinds a_k_newKinds a_k_newValues a_m a_m_type a_m_name a_m_arity a_m_keys a_m_defaults k_count k_frozenSet k_staticType k_dynamicType k_target k_argumentCounts k_temporaryCounts k_keys k_kinds k_values k_temporaryKinds k_newKinds k_newValues m_count m_type m_name m_arity m_keys m_defaults x1 x2 v8 v20 g21 g22 g23 g24 g25 g26 g27 g28 g29 ev20) cw131 hP hD hS (isC := [4, 3]) (isR := [0, 1, 2, 5, 6, 7, 8, 9]) (C0 := [B_k cI cM a_k a_k_staticType a_k_dynamicType a_k_target a_k_argumentCounts a_k_temporaryCounts a_k_keys a_k_kinds a_k_values a_k_temporaryKinds a_k_newKinds a_k_newValues k_count k_frozenSet k_staticType k_dynamicType k_target k_argumentCounts k_temporaryCounts k_keys k_kinds k_values k_temporaryKinds k_newKinds k_newValues, B_m cI cM a_m a_m_type a_m_name a_m_arity a_m_keys a_m_defaults m_count m_type m_name m_arity m_keys m_defaults]) (C1 := [B_k cI cM a_k a_k_staticType a_k_dynamicType a_k_target a_k_argumentCounts a_k_temporaryCounts a_k_keys a_k_kinds a_k_values a_k_temporaryKinds a_k_newKinds a_k_newValues g21 k_frozenSet g22 g23 g24 g25 g26 g27 g28 g29 k_temporaryKinds k_newKinds k_newValues, B_m cI cM a_m a_m_type a_m_name a_m_arity a_m_keys a_m_defaults m_count m_type m_name m_arity m_keys m_defaults]) (Rr := [B_x cI cM a_x a_x_hoistedOfCall a_o a_d a_h a_e a_g x_hoistedOfCall, B_o cI cM a_o a_t a_m a_k , B_t cI cM a_t a_t_supertypes t_count t_interfaceSet t_supertypes, B_d cI cM a_d a_d_sources a_d_keys a_d_defaults g16 d_method d_family d_oldCount d_keptSet d_count d_sources d_keys d_defaults d_usedKeys, B_h cI cM a_h a_h_saved a_h_ad g17 g18, B_e cI cM a_e a_e_temporaries a_e_arguments e_counter e_temporaries e_arguments, B_g cI cM a_g a_g_kinds a_g_positions g_count g_kept g_kinds g_positions, hW cI cM a_h_ad g19]) (show (List.range 10).Perm ([4, 3] ++ [0, 1, 2, 5, 6, 7, 8, 9]) by decide) rfl rfl rfl rfl rfl rfl rfl rfl 0 0 rfl rfl rfl hl.1 rfl (Nat.le_of_ble_eq_true rfl) dX8_declareCall_120 ⟨Nat.zero_le _, Nat.zero_le _⟩ rfl (fun H locs hP hD hS => ?_)
                have hP : va_P D vwCl (W_x_o_t_m_k_d_h_e_g cI cM a_x a_x_hoistedOfCall a_o a_t a_t_supertypes a_m a_m_type a_m_name a_m_arity a_m_keys a_m_defaults a_k a_k_staticType a_k_dynamicType a_k_target a_k_argumentCounts a_k_temporaryCounts a_k_keys a_k_kinds a_k_values a_k_temporaryKinds a_k_newKinds a_k_newValues a_d a_d_sources a_d_keys a_d_defaults a_h a_h_saved a_e a_e_temporaries a_e_arguments a_g a_g_kinds a_g_positions a_h_ad x_hoistedOfCall t_count t_interfaceSet t_supertypes m_count m_type m_name m_arity m_keys m_defaults g21 k_frozenSet g22 g23 g24 g25 g26 g27 g28 g29 k_temporaryKinds k_newKinds k_newValues g16 d_method d_family d_oldCount d_keptSet d_count d_sources d_keys d_defaults d_usedKeys g17 g18 e_counter e_temporaries e_arguments g_count g_kept g_kinds g_positions ++ hW cI cM a_h_ad g19) H := hP
                have hD : va_D _ (W_x_o_t_m_k_d_h_e_g cI cM a_x a_x_hoistedOfCall a_o a_t a_t_supertypes a_m a_m_type a_m_name a_m_arity a_m_keys a_m_defaults a_k a_k_staticType a_k_dynamicType a_k_target a_k_argumentCounts a_k_temporaryCounts a_k_keys a_k_kinds a_k_values a_k_temporaryKinds a_k_newKinds a_k_newValues a_d a_d_sources a_d_keys a_d_defaults a_h a_h_saved a_e a_e_temporaries a_e_arguments a_g a_g_kinds a_g_positions a_h_ad x_hoistedOfCall t_count t_interfaceSet t_supertypes m_count m_type m_name m_arity m_keys m_defaults g21 k_frozenSet g22 g23 g24 g25 g26 g27 g28 g29 k_temporaryKinds k_newKinds k_newValues g16 d_method d_family d_oldCount d_keptSet d_count d_sources d_keys d_defaults d_usedKeys g17 g18 e_counter e_temporaries e_arguments g_count g_kept g_kinds g_positions ++ hW cI cM a_h_ad g19) := hD
                simp only [Option.some.injEq, Prod.mk.injEq] at h
                obtain ⟨e0, e1, e2, e3, e4, e5, e6, e7, e8, e9, e10, e11, e12, e13⟩ := h
                exact kRetI hx hb hr hlk e0 (by rw [← hw1, ← e1, ← e2, ← e3, ← e4, ← e5, ← e6, ← e7, ← e8, ← e9, ← e10, ← e11, ← e12, ← e13]; exact hP) hS dX8_declareCall_123
              · have h := ifn h c15
                refine lv_bipush (v := (-3)) hx hb dX8_declareCall_95 (by decide) ?_
                simp only [Option.some.injEq, Prod.mk.injEq] at h
                obtain ⟨e0, e1, e2, e3, e4, e5, e6, e7, e8, e9, e10, e11, e12, e13⟩ := h
                exact kRetI hx hb hr hlk e0 (by rw [← hw1, ← e1, ← e2, ← e3, ← e4, ← e5, ← e6, ← e7, ← e8, ← e9, ← e10, ← e11, ← e12, ← e13]; exact hP) hS dX8_declareCall_97
            · have h := ifp h c14
              refine lv_bipush (v := (-2)) hx hb dX8_declareCall_77 (by decide) ?_
              simp only [Option.some.injEq, Prod.mk.injEq] at h
              obtain ⟨e0, e1, e2, e3, e4, e5, e6, e7, e8, e9, e10, e11, e12, e13⟩ := h
              exact kRetI hx hb hr hlk e0 (by rw [← hw1, ← e1, ← e2, ← e3, ← e4, ← e5, ← e6, ← e7, ← e8, ← e9, ← e10, ← e11, ← e12, ← e13]; exact hP) hS dX8_declareCall_79
      · have h := ifp h c7
        refine lv_iconst (v := (-1)) hx hb dX8_declareCall_36 (by decide) ?_
        simp only [Option.some.injEq, Prod.mk.injEq] at h
        obtain ⟨e0, e1, e2, e3, e4, e5, e6, e7, e8, e9, e10, e11, e12, e13⟩ := h
        exact kRetI hx hb hr hlk e0 (by rw [← hw1, ← e1, ← e2, ← e3, ← e4, ← e5, ← e6, ← e7, ← e8, ← e9, ← e10, ← e11, ← e12, ← e13]; exact hP) hS dX8_declareCall_37
set_option maxHeartbeats 8000000 in
set_option maxRecDepth 100000 in
theorem qX8_isValue (l : Launch) (D : va_G) (cI cM : ClassId) (x0 : Int32) (r : Int32) (h : fX8_isValue x0 = some r) : PM l yX8_isValue wsX8_isValue rmX8_isValue D cI cM [.int x0] ([]) r := by
  refine PM.of (cc := cX8_isValue) (maxL := 1) (ret := (some .boolean)) (by decide) rfl (Nat.le_of_ble_eq_true rfl) ?_
  intro p e s m below meth c ls hx hb hr hml hown hts hlk hP hKK hl
  have hown : s.vm.findClass RX8 = some m.cls := hown
  have hl : lv_has ls 1 [(0, .int x0)] := hl
  generalize hav : ([.int x0] : List Value) = av at hts ⊢
  have SS : CallFix p m c cX8_isValue 1 s av.toArray wsX8_isValue RX8 := ⟨hx, hb, hml, hown, hts⟩
  unfold fX8_isValue at h
  refine lv_iload_n hx hb dX8_isValue_0 rfl (lv_at hl 0 rfl) ?_
  refine lv_bipush (v := (-99)) hx hb dX8_isValue_1 (by decide) ?_
  refine lv_icmp_lt (tgt := 16) hx hb dX8_isValue_3 (by decide) (fun c1 => ?_) (fun c1 => ?_)
  · have h := ifp h c1
    refine lv_iconst (v := 0) hx hb dX8_isValue_16 (by decide) ?_
    exact kRetZ hx hb hr hlk rfl (Option.some.inj h) dX8_isValue_17
  · have h := ifn h c1
    refine lv_iload_n hx hb dX8_isValue_6 rfl (lv_at hl 0 rfl) ?_
    refine lv_bipush (v := 99) hx hb dX8_isValue_7 (by decide) ?_
    refine lv_icmp_gt (tgt := 16) hx hb dX8_isValue_9 (by decide) (fun c2 => ?_) (fun c2 => ?_)
    · have h := ifp h c2
      refine lv_iconst (v := 0) hx hb dX8_isValue_16 (by decide) ?_
      exact kRetZ hx hb hr hlk rfl (Option.some.inj h) dX8_isValue_17
    · have h := ifn h c2
      refine lv_iconst (v := 1) hx hb dX8_isValue_12 (by decide) ?_
      refine lv_goto (tgt := 17) hx hb dX8_isValue_13 (by decide) ?_
      exact kRetZ hx hb hr hlk rfl (Option.some.inj h) dX8_isValue_17
set_option maxHeartbeats 8000000 in
set_option maxRecDepth 100000 in
theorem qX8_isExpression (l : Launch) (D : va_G) (cI cM : ClassId) (x0 : Int32) (x1 : Int32) (r : Int32) (h : fX8_isExpression x0 x1 = some r) : PM l yX8_isExpression wsX8_isExpression rmX8_isExpression D cI cM [.int x0, .int x1] ([]) r := by
  refine PM.of (cc := cX8_isExpression) (maxL := 2) (ret := (some .boolean)) (by decide) rfl (Nat.le_of_ble_eq_true rfl) ?_
  intro p e s m below meth c ls hx hb hr hml hown hts hlk hP hKK hl
  have hown : s.vm.findClass RX8 = some m.cls := hown
  have hl : lv_has ls 2 [(0, .int x0), (1, .int x1)] := hl
  generalize hav : ([.int x0, .int x1] : List Value) = av at hts ⊢
  have SS : CallFix p m c cX8_isExpression 2 s av.toArray wsX8_isExpression RX8 := ⟨hx, hb, hml, hown, hts⟩
  have cw215 : CallB rmX8_isExpression s av.toArray RX8 215 yX8_isValue cX8_isValue 1 (some .boolean) wsX8_isValue rmX8_isValue 0 0 1 ∧ (Cond.static yX8_isValue).before av.toArray s = true := va_cwS 1 hts gX8_isExpression_X8_isValue rfl rfl rfl (by decide +kernel) ⟨Nat.le_of_ble_eq_true rfl, Nat.le_of_ble_eq_true rfl⟩
  have F21 : ∀ (y1 : Int32), jX8_isExpression_21  y1 = some r → ∀ ls : Array Slot, lv_has ls 2 [(1, .int y1)] → WP p l e rmX8_isExpression s m av below meth c r 21 ls [] := by
    intro y1 h ls hl
    unfold jX8_isExpression_21 at h
    refine lv_iload_n hx hb dX8_isExpression_21 rfl (lv_at hl 0 rfl) ?_
    refine lv_if_ne (tgt := 29) hx hb dX8_isExpression_22 (by decide) (fun c1 => ?_) (fun c1 => ?_)
    · have h := ifn h c1
      refine lv_iconst (v := 0) hx hb dX8_isExpression_29 (by decide) ?_
      exact kRetZ hx hb hr hlk rfl (Option.some.inj h) dX8_isExpression_30
    · have h := ifp h c1
      refine lv_iconst (v := 1) hx hb dX8_isExpression_25 (by decide) ?_
      refine lv_goto (tgt := 30) hx hb dX8_isExpression_26 (by decide) ?_
      exact kRetZ hx hb hr hlk rfl (Option.some.inj h) dX8_isExpression_30
  unfold fX8_isExpression at h
  refine lv_iload_n hx hb dX8_isExpression_0 rfl (lv_at hl 0 rfl) ?_
  refine lv_if_ne (tgt := 11) hx hb dX8_isExpression_1 (by decide) (fun c1 => ?_) (fun c1 => ?_)
  · have h := ifn h c1
    refine lv_iload_n hx hb dX8_isExpression_11 rfl (lv_at hl 0 rfl) ?_
    refine lv_iconst (v := 1) hx hb dX8_isExpression_12 (by decide) ?_
    refine lv_icmp_eq (tgt := 21) hx hb dX8_isExpression_13 (by decide) (fun c2 => ?_) (fun c2 => ?_)
    · have h := ifp h c2
      exact F21 x1 h ls (lv_sub (l' := [(1, .int x1)]) hl [1] rfl)
    · have h := ifn h c2
      refine lv_iload_n hx hb dX8_isExpression_16 rfl (lv_at hl 0 rfl) ?_
      refine lv_iconst (v := 2) hx hb dX8_isExpression_17 (by decide) ?_
      refine lv_icmp_ne (tgt := 29) hx hb dX8_isExpression_18 (by decide) (fun c3 => ?_) (fun c3 => ?_)
      · have h := ifn h c3
        refine lv_iconst (v := 0) hx hb dX8_isExpression_29 (by decide) ?_
        exact kRetZ hx hb hr hlk rfl (Option.some.inj h) dX8_isExpression_30
      · have h := ifp h c3
        exact F21 x1 h ls (lv_sub (l' := [(1, .int x1)]) hl [1] rfl)
  · have h := ifp h c1
    refine lv_iload_n hx hb dX8_isExpression_4 rfl (lv_at hl 1 rfl) ?_
    obtain ⟨v4, ev4, h⟩ := bn_some h
    refine kS (As := [.int x1]) (rest := []) SS hKK (qX8_isValue l D cI cM x1 v4 ev4) cw215 va_P_nil rfl hl.1 rfl (Nat.le_of_ble_eq_true rfl) dX8_isExpression_5 ⟨Nat.zero_le _, Nat.zero_le _⟩ ?_
    refine lv_goto (tgt := 30) hx hb dX8_isExpression_8 (by decide) ?_
    exact kRetZ hx hb hr hlk (rb_some h).2 (rb_some h).1 dX8_isExpression_30
set_option maxHeartbeats 8000000 in
set_option maxRecDepth 100000 in
theorem qX8_setArgument (l : Launch) (D : va_G) (cI cM : ClassId) (a_x a_x_hoistedOfCall a_o a_t a_t_supertypes a_m a_m_type a_m_name a_m_arity a_m_keys a_m_defaults a_k a_k_staticType a_k_dynamicType a_k_target a_k_argumentCounts a_k_temporaryCounts a_k_keys a_k_kinds a_k_values a_k_temporaryKinds a_k_newKinds a_k_newValues a_d a_d_sources a_d_keys a_d_defaults a_h a_h_saved a_e a_e_temporaries a_e_arguments a_g a_g_kinds a_g_positions : Nat) (a_h_ad : Nat → Nat → Nat) (x_hoistedOfCall : Nat → Int32) (t_count : Int32) (t_interfaceSet : Int32) (t_supertypes : Nat → Int32) (m_count : Int32) (m_type : Nat → Int32) (m_name : Nat → Int32) (m_arity : Nat → Int32) (m_keys : Nat → Int32) (m_defaults : Nat → Int32) (k_count : Int32) (k_frozenSet : Int32) (k_staticType : Nat → Int32) (k_dynamicType : Nat → Int32) (k_target : Nat → Int32) (k_argumentCounts : Nat → Int32) (k_temporaryCounts : Nat → Int32) (k_keys : Nat → Int32) (k_kinds : Nat → Int32) (k_values : Nat → Int32) (k_temporaryKinds : Nat → Int32) (k_newKinds : Nat → Int32) (k_newValues : Nat → Int32) (d_open : Int32) (d_method : Int32) (d_family : Int32) (d_oldCount : Int32) (d_keptSet : Int32) (d_count : Int32) (d_sources : Nat → Int32) (d_keys : Nat → Int32) (d_defaults : Nat → Int32) (d_usedKeys : Int32) (h_count : Int32) (h_next : Int32) (e_counter : Int32) (e_temporaries : Nat → Int32) (e_arguments : Nat → Int32) (g_count : Int32) (g_kept : Int32) (g_kinds : Nat → Int32) (g_positions : Nat → Int32) (h_hs : Nat → MS) (x1 : Int32) (x2 : Int32) (x3 : Int32) (x4 : Int32) (r : Int32) (r_k_kinds : Nat → Int32) (r_k_values : Nat → Int32) (r_d_open : Int32) (r_h_count : Int32) (r_h_next : Int32) (r_h_hs : Nat → MS) (h : fX8_setArgument t_count t_interfaceSet t_supertypes m_count m_type m_name m_arity m_keys m_defaults k_count k_frozenSet k_staticType k_dynamicType k_target k_argumentCounts k_temporaryCounts k_keys k_kinds k_values k_temporaryKinds k_newKinds k_newValues d_open h_count h_next h_hs x1 x2 x3 x4 = some (r, r_k_kinds, r_k_values, r_d_open, r_h_count, r_h_next, r_h_hs)) : IM l yX8_setArgument wsX8_setArgument rmX8_setArgument D cI cM [.ref a_x, .int x1, .int x2, .int x3, .int x4] (W_x_o_t_m_k_d_h_e_g cI cM a_x a_x_hoistedOfCall a_o a_t a_t_supertypes a_m a_m_type a_m_name a_m_arity a_m_keys a_m_defaults a_k a_k_staticType a_k_dynamicType a_k_target a_k_argumentCounts a_k_temporaryCounts a_k_keys a_k_kinds a_k_values a_k_temporaryKinds a_k_newKinds a_k_newValues a_d a_d_sources a_d_keys a_d_defaults a_h a_h_saved a_e a_e_temporaries a_e_arguments a_g a_g_kinds a_g_positions a_h_ad x_hoistedOfCall t_count t_interfaceSet t_supertypes m_count m_type m_name m_arity m_keys m_defaults k_count k_frozenSet k_staticType k_dynamicType k_target k_argumentCounts k_temporaryCounts k_keys k_kinds k_values k_temporaryKinds k_newKinds k_newValues d_open d_method d_family d_oldCount d_keptSet d_count d_sources d_keys d_defaults d_usedKeys h_count h_next e_counter e_temporaries e_arguments g_count g_kept g_kinds g_positions ++ hW cI cM a_h_ad h_hs) (W_x_o_t_m_k_d_h_e_g cI cM a_x a_x_hoistedOfCall a_o a_t a_t_supertypes a_m a_m_type a_m_name a_m_arity a_m_keys a_m_defaults a_k a_k_staticType a_k_dynamicType a_k_target a_k_argumentCounts a_k_temporaryCounts a_k_keys a_k_kinds a_k_values a_k_temporaryKinds a_k_newKinds a_k_newValues a_d a_d_sources a_d_keys a_d_defaults a_h a_h_saved a_e a_e_temporaries a_e_arguments a_g a_g_kinds a_g_positions a_h_ad x_hoistedOfCall t_count t_interfaceSet t_supertypes m_count m_type m_name m_arity m_keys m_defaults k_count k_frozenSet k_staticType k_dynamicType k_target k_argumentCounts k_temporaryCounts k_keys r_k_kinds r_k_values k_temporaryKinds k_newKinds k_newValues r_d_open d_method d_family d_oldCount d_keptSet d_count d_sources d_keys d_defaults d_usedKeys r_h_count r_h_next e_counter e_temporaries e_arguments g_count g_kept g_kinds g_positions ++ hW cI cM a_h_ad r_h_hs) (some (.int r)) := by
  refine IM.of (cc := cX8_setArgument) (maxL := 7) (ret := (some .int)) (by decide) rfl (Nat.le_of_ble_eq_true rfl) ?_
  intro p e s m below meth c ls hx hb hr hml hown hts hlk hKK hP hD hS hl
  have hown : s.vm.findClass RX8 = some m.cls := hown
  have hl : lv_has ls 7 [(0, .ref a_x), (1, .int x1), (2, .int x2), (3, .int x3), (4, .int x4)] := hl
  generalize hav : ([.ref a_x, .int x1, .int x2, .int x3, .int x4] : List Value) = av at hts ⊢
  generalize hw1 : W_x_o_t_m_k_d_h_e_g cI cM a_x a_x_hoistedOfCall a_o a_t a_t_supertypes a_m a_m_type a_m_name a_m_arity a_m_keys a_m_defaults a_k a_k_staticType a_k_dynamicType a_k_target a_k_argumentCounts a_k_temporaryCounts a_k_keys a_k_kinds a_k_values a_k_temporaryKinds a_k_newKinds a_k_newValues a_d a_d_sources a_d_keys a_d_defaults a_h a_h_saved a_e a_e_temporaries a_e_arguments a_g a_g_kinds a_g_positions a_h_ad x_hoistedOfCall t_count t_interfaceSet t_supertypes m_count m_type m_name m_arity m_keys m_defaults k_count k_frozenSet k_staticType k_dynamicType k_target k_argumentCounts k_temporaryCounts k_keys r_k_kinds r_k_values k_temporaryKinds k_newKinds k_newValues r_d_open d_method d_family d_oldCount d_keptSet d_count d_sources d_keys d_defaults d_usedKeys r_h_count r_h_next e_counter e_temporaries e_arguments g_count g_kept g_kinds g_positions ++ hW cI cM a_h_ad r_h_hs = w1
  generalize hw0 : W_x_o_t_m_k_d_h_e_g cI cM a_x a_x_hoistedOfCall a_o a_t a_t_supertypes a_m a_m_type a_m_name a_m_arity a_m_keys a_m_defaults a_k a_k_staticType a_k_dynamicType a_k_target a_k_argumentCounts a_k_temporaryCounts a_k_keys a_k_kinds a_k_values a_k_temporaryKinds a_k_newKinds a_k_newValues a_d a_d_sources a_d_keys a_d_defaults a_h a_h_saved a_e a_e_temporaries a_e_arguments a_g a_g_kinds a_g_positions a_h_ad x_hoistedOfCall t_count t_interfaceSet t_supertypes m_count m_type m_name m_arity m_keys m_defaults k_count k_frozenSet k_staticType k_dynamicType k_target k_argumentCounts k_temporaryCounts k_keys k_kinds k_values k_temporaryKinds k_newKinds k_newValues d_open d_method d_family d_oldCount d_keptSet d_count d_sources d_keys d_defaults d_usedKeys h_count h_next e_counter e_temporaries e_arguments g_count g_kept g_kinds g_positions ++ hW cI cM a_h_ad h_hs = w0 at hD hS ⊢
  have hP : va_P D vwCl (W_x_o_t_m_k_d_h_e_g cI cM a_x a_x_hoistedOfCall a_o a_t a_t_supertypes a_m a_m_type a_m_name a_m_arity a_m_keys a_m_defaults a_k a_k_staticType a_k_dynamicType a_k_target a_k_argumentCounts a_k_temporaryCounts a_k_keys a_k_kinds a_k_values a_k_temporaryKinds a_k_newKinds a_k_newValues a_d a_d_sources a_d_keys a_d_defaults a_h a_h_saved a_e a_e_temporaries a_e_arguments a_g a_g_kinds a_g_positions a_h_ad x_hoistedOfCall t_count t_interfaceSet t_supertypes m_count m_type m_name m_arity m_keys m_defaults k_count k_frozenSet k_staticType k_dynamicType k_target k_argumentCounts k_temporaryCounts k_keys k_kinds k_values k_temporaryKinds k_newKinds k_newValues d_open d_method d_family d_oldCount d_keptSet d_count d_sources d_keys d_defaults d_usedKeys h_count h_next e_counter e_temporaries e_arguments g_count g_kept g_kinds g_positions ++ hW cI cM a_h_ad h_hs) s.heap := hP
  have hD : va_D (fun q => q ∈ w0.map (·.1)) (W_x_o_t_m_k_d_h_e_g cI cM a_x a_x_hoistedOfCall a_o a_t a_t_supertypes a_m a_m_type a_m_name a_m_arity a_m_keys a_m_defaults a_k a_k_staticType a_k_dynamicType a_k_target a_k_argumentCounts a_k_temporaryCounts a_k_keys a_k_kinds a_k_values a_k_temporaryKinds a_k_newKinds a_k_newValues a_d a_d_sources a_d_keys a_d_defaults a_h a_h_saved a_e a_e_temporaries a_e_arguments a_g a_g_kinds a_g_positions a_h_ad x_hoistedOfCall t_count t_interfaceSet t_supertypes m_count m_type m_name m_arity m_keys m_defaults k_count k_frozenSet k_staticType k_dynamicType k_target k_argumentCounts k_temporaryCounts k_keys k_kinds k_values k_temporaryKinds k_newKinds k_newValues d_open d_method d_family d_oldCount d_keptSet d_count d_sources d_keys d_defaults d_usedKeys h_count h_next e_counter e_temporaries e_arguments g_count g_kept g_kinds g_positions ++ hW cI cM a_h_ad h_hs) := by rw [hw0]; exact hD
  have SS : CallFix p m c cX8_setArgument 7 s av.toArray wsX8_setArgument RX8 := ⟨hx, hb, hml, hown, hts⟩
  have hinX6 : ∀ w ∈ u_ws RX6 TX6 3, w ∈ wsX8_setArgument := by decide +kernel
  have hinX8 : ∀ w ∈ u_ws RX8 TX8 6, w ∈ wsX8_setArgument := by decide +kernel
  have lk10 := hts (.fieldLink RX8 10 "SignatureChanger" "model" "LSignatureChanger$Model;") (List.mem_of_getElem? (i := 1) rfl)
  have lk124 := hts (.fieldLink RX8 124 "SignatureChanger$Model" "calls" "LSignatureChanger$Calls;") (List.mem_of_getElem? (i := 2) rfl)
  have cw79 : CallW rmX8_setArgument s av.toArray RX8 RX8 79 yX8_beginEdit cX8_beginEdit 1 none wsX8_beginEdit rmX8_beginEdit 0 0 0 := cwV 0 hts gX8_setArgument_X8_beginEdit rfl rfl rfl (by decide +kernel) ⟨Nat.le_of_ble_eq_true rfl, Nat.le_of_ble_eq_true rfl⟩
  have cw134 : CallW rmX8_setArgument s av.toArray RX8 RX0 134 yX0_hasArgument cX0_hasArgument 3 (some .boolean) wsX0_hasArgument rmX0_hasArgument 0 0 2 := cwV 2 hts gX8_setArgument_X0_hasArgument rfl rfl rfl (by decide +kernel) ⟨Nat.le_of_ble_eq_true rfl, Nat.le_of_ble_eq_true rfl⟩
  have cw137 : CallB rmX8_setArgument s av.toArray RX8 137 yX8_isExpression cX8_isExpression 2 (some .boolean) wsX8_isExpression rmX8_isExpression 0 0 2 ∧ (Cond.static yX8_isExpression).before av.toArray s = true := va_cwS 2 hts gX8_setArgument_X8_isExpression rfl rfl rfl (by decide +kernel) ⟨Nat.le_of_ble_eq_true rfl, Nat.le_of_ble_eq_true rfl⟩
  have cw140 : CallW rmX8_setArgument s av.toArray RX8 RX0 140 yX0_kindOf cX0_kindOf 3 (some .int) wsX0_kindOf rmX0_kindOf 0 0 2 := cwV 2 hts gX8_setArgument_X0_kindOf rfl rfl rfl (by decide +kernel) ⟨Nat.le_of_ble_eq_true rfl, Nat.le_of_ble_eq_true rfl⟩
  have cw143 : CallW rmX8_setArgument s av.toArray RX8 RX0 143 yX0_isFrozen cX0_isFrozen 2 (some .boolean) wsX0_isFrozen rmX0_isFrozen 0 0 1 := cwV 1 hts gX8_setArgument_X0_isFrozen rfl rfl rfl (by decide +kernel) ⟨Nat.le_of_ble_eq_true rfl, Nat.le_of_ble_eq_true rfl⟩
  have cw146 : CallW rmX8_setArgument s av.toArray RX8 RX0 146 yX0_putArgument cX0_putArgument 5 none wsX0_putArgument rmX0_putArgument 0 0 4 := cwV 4 hts gX8_setArgument_X0_putArgument rfl rfl rfl (by decide +kernel) ⟨Nat.le_of_ble_eq_true rfl, Nat.le_of_ble_eq_true rfl⟩
  unfold fX8_setArgument at h
  refine lv_aload_n hx hb dX8_setArgument_0 rfl (lv_at hl 0 rfl) ?_
  refine va_get (D := D) (ci := 8) (v := .ref a_o) (C := RX8) (T := TX8) (N := 6) hx hb hts hinX8 hown hKK.1 hP 0 rfl rfl 0 (by decide) lk10 (fun _ h9 => h9) rfl dX8_setArgument_1 ?_
  refine va_get (D := D) (ci := 6) (v := .ref a_k) (C := RX6) (T := TX6) (N := 3) hx hb hts hinX6 hown hKK.1 hP 2 rfl rfl 2 (by decide) lk124 (fun _ h9 => h9) rfl dX8_setArgument_4 ?_
  refine lv_astore (lv' := [(5, .ref a_k), (0, .ref a_x), (1, .int x1), (2, .int x2), (3, .int x3), (4, .int x4)]) hx hb dX8_setArgument_7 hl (by decide) rfl (fun ls hl => ?_)
  refine lv_aload hx hb dX8_setArgument_9 (lv_at hl 0 rfl) ?_
  refine lv_iload_n hx hb dX8_setArgument_11 rfl (lv_at hl 2 rfl) ?_
  refine lv_iload_n hx hb dX8_setArgument_12 rfl (lv_at hl 3 rfl) ?_
  obtain ⟨v1, ev1, h⟩ := bn_some h
  have hs2 : va_P D vwCl (W_k cI cM a_k a_k_staticType a_k_dynamicType a_k_target a_k_argumentCounts a_k_temporaryCounts a_k_keys a_k_kinds a_k_values a_k_temporaryKinds a_k_newKinds a_k_newValues k_count k_frozenSet k_staticType k_dynamicType k_target k_argumentCounts k_temporaryCounts k_keys k_kinds k_values k_temporaryKinds k_newKinds k_newValues) _ := blkP (Bs := [B_x cI cM a_x a_x_hoistedOfCall a_o a_d a_h a_e a_g x_hoistedOfCall, B_o cI cM a_o a_t a_m a_k , B_t cI cM a_t a_t_supertypes t_count t_interfaceSet t_supertypes, B_m cI cM a_m a_m_type a_m_name a_m_arity a_m_keys a_m_defaults m_count m_type m_name m_arity m_keys m_defaults, B_k cI cM a_k a_k_staticType a_k_dynamicType a_k_target a_k_argumentCounts a_k_temporaryCounts a_k_keys a_k_kinds a_k_values a_k_temporaryKinds a_k_newKinds a_k_newValues k_count k_frozenSet k_staticType k_dynamicType k_target k_argumentCounts k_temporaryCounts k_keys k_kinds k_values k_temporaryKinds k_newKinds k_newValues, B_d cI cM a_d a_d_sources a_d_keys a_d_defaults d_open d_method d_family d_oldCount d_keptSet d_count d_sources d_keys d_defaults d_usedKeys, B_h cI cM a_h a_h_saved a_h_ad h_count h_next, B_e cI cM a_e a_e_temporaries a_e_arguments e_counter e_temporaries e_arguments, B_g cI cM a_g a_g_kinds a_g_positions g_count g_kept g_kinds g_positions, hW cI cM a_h_ad h_hs]) hP [4] (C0 := [B_k cI cM a_k a_k_staticType a_k_dynamicType a_k_target a_k_argumentCounts a_k_temporaryCounts a_k_keys a_k_kinds a_k_values a_k_temporaryKinds a_k_newKinds a_k_newValues k_count k_frozenSet k_staticType k_dynamicType k_target k_argumentCounts k_temporaryCounts k_keys k_kinds k_values k_temporaryKinds k_newKinds k_newValues]) rfl rfl
  refine kV (As := [.int x1, .int x2]) (rest := []) SS hKK (qX0_hasArgument l D cI cM a_k a_k_staticType a_k_dynamicType a_k_target a_k_argumentCounts a_k_temporaryCounts a_k_keys a_k_kinds a_k_values a_k_temporaryKinds a_k_newKinds a_k_newValues k_count k_frozenSet k_staticType k_dynamicType k_target k_argumentCounts k_temporaryCounts k_keys k_kinds k_values k_temporaryKinds k_newKinds k_newValues x1 x2 v1 ev1) cw134 hs2 0 0 rfl rfl rfl hl.1 rfl (Nat.le_of_ble_eq_true rfl) dX8_setArgument_13 ⟨Nat.zero_le _, Nat.zero_le _⟩ ?_
  refine lv_if_eq (tgt := 28) hx hb dX8_setArgument_16 (by decide) (fun c3 => ?_) (fun c3 => ?_)
  · have h := ifp h c3
    refine lv_iconst (v := (-1)) hx hb dX8_setArgument_28 (by decide) ?_
    simp only [Option.some.injEq, Prod.mk.injEq] at h
    obtain ⟨e0, e1, e2, e3, e4, e5, e6⟩ := h
    exact kRetI hx hb hr hlk e0 (by rw [← hw1, ← e1, ← e2, ← e3, ← e4, ← e5, ← e6]; exact hP) hS dX8_setArgument_29
  · have h := ifn h c3
    refine lv_iload_n hx hb dX8_setArgument_19 rfl (lv_at hl 4 rfl) ?_
    refine lv_iload hx hb dX8_setArgument_20 (lv_at hl 5 rfl) ?_
    obtain ⟨v4, ev4, h⟩ := bn_some h
    refine kS (As := [.int x3, .int x4]) (rest := []) SS hKK (qX8_isExpression l D cI cM x3 x4 v4 ev4) cw137 va_P_nil rfl hl.1 rfl (Nat.le_of_ble_eq_true rfl) dX8_setArgument_22 ⟨Nat.zero_le _, Nat.zero_le _⟩ ?_
    refine lv_if_ne (tgt := 30) hx hb dX8_setArgument_25 (by decide) (fun c5 => ?_) (fun c5 => ?_)
    · have h := ifn h c5
      refine lv_aload hx hb dX8_setArgument_30 (lv_at hl 0 rfl) ?_
      refine lv_iload_n hx hb dX8_setArgument_32 rfl (lv_at hl 2 rfl) ?_
      refine lv_iload_n hx hb dX8_setArgument_33 rfl (lv_at hl 3 rfl) ?_
      obtain ⟨v6, ev6, h⟩ := bn_some h
      refine kV (As := [.int x1, .int x2]) (rest := []) SS hKK (qX0_kindOf l D cI cM a_k a_k_staticType a_k_dynamicType a_k_target a_k_argumentCounts a_k_temporaryCounts a_k_keys a_k_kinds a_k_values a_k_temporaryKinds a_k_newKinds a_k_newValues k_count k_frozenSet k_staticType k_dynamicType k_target k_argumentCounts k_temporaryCounts k_keys k_kinds k_values k_temporaryKinds k_newKinds k_newValues x1 x2 v6 ev6) cw140 hs2 0 0 rfl rfl rfl hl.1 rfl (Nat.le_of_ble_eq_true rfl) dX8_setArgument_34 ⟨Nat.zero_le _, Nat.zero_le _⟩ ?_
      refine lv_istore (lv' := [(6, .int v6), (5, .ref a_k), (0, .ref a_x), (1, .int x1), (2, .int x2), (3, .int x3), (4, .int x4)]) hx hb dX8_setArgument_37 hl (by decide) rfl (fun ls hl => ?_)
      refine lv_aload hx hb dX8_setArgument_39 (lv_at hl 1 rfl) ?_
      refine lv_iload_n hx hb dX8_setArgument_41 rfl (lv_at hl 3 rfl) ?_
      obtain ⟨v7, ev7, h⟩ := bn_some h
      refine kV (As := [.int x1]) (rest := []) SS hKK (qX0_isFrozen l D cI cM a_k a_k_staticType a_k_dynamicType a_k_target a_k_argumentCounts a_k_temporaryCounts a_k_keys a_k_kinds a_k_values a_k_temporaryKinds a_k_newKinds a_k_newValues k_count k_frozenSet k_staticType k_dynamicType k_target k_argumentCounts k_temporaryCounts k_keys k_kinds k_values k_temporaryKinds k_newKinds k_newValues x1 v7 ev7) cw143 hs2 0 0 rfl rfl rfl hl.1 rfl (Nat.le_of_ble_eq_true rfl) dX8_setArgument_42 ⟨Nat.zero_le _, Nat.zero_le _⟩ ?_
      refine lv_if_ne (tgt := 54) hx hb dX8_setArgument_45 (by decide) (fun c8 => ?_) (fun c8 => ?_)
      · have h := ifn h c8
        refine lv_bipush (v := (-2)) hx hb dX8_setArgument_54 (by decide) ?_
        simp only [Option.some.injEq, Prod.mk.injEq] at h
        obtain ⟨e0, e1, e2, e3, e4, e5, e6⟩ := h
        exact kRetI hx hb hr hlk e0 (by rw [← hw1, ← e1, ← e2, ← e3, ← e4, ← e5, ← e6]; exact hP) hS dX8_setArgument_56
      · have h := ifp h c8
        refine lv_iload hx hb dX8_setArgument_48 (lv_at hl 0 rfl) ?_
        refine lv_iconst (v := 3) hx hb dX8_setArgument_50 (by decide) ?_
        refine lv_icmp_ne (tgt := 57) hx hb dX8_setArgument_51 (by decide) (fun c9 => ?_) (fun c9 => ?_)
        · have h := ifn h c9
          refine lv_aload_n hx hb dX8_setArgument_57 rfl (lv_at hl 2 rfl) ?_
          obtain ⟨g10, g11, g12, g13, eg10, h⟩ := bn4_some h
          refine kVB (As := []) (rest := []) (st1 := []) (Bs := [B_x cI cM a_x a_x_hoistedOfCall a_o a_d a_h a_e a_g x_hoistedOfCall, B_o cI cM a_o a_t a_m a_k , B_t cI cM a_t a_t_supertypes t_count t_interfaceSet t_supertypes, B_m cI cM a_m a_m_type a_m_name a_m_arity a_m_keys a_m_defaults m_count m_type m_name m_arity m_keys m_defaults, B_k cI cM a_k a_k_staticType a_k_dynamicType a_k_target a_k_argumentCounts a_k_temporaryCounts a_k_keys a_k_kinds a_k_values a_k_temporaryKinds a_k_newKinds a_k_newValues k_count k_frozenSet k_staticType k_dynamicType k_target k_argumentCounts k_temporaryCounts k_keys k_kinds k_values k_temporaryKinds k_newKinds k_newValues, B_d cI cM a_d a_d_sources a_d_keys a_d_defaults d_open d_method d_family d_oldCount d_keptSet d_count d_sources d_keys d_defaults d_usedKeys, B_h cI cM a_h a_h_saved a_h_ad h_count h_next, B_e cI cM a_e a_e_temporaries a_e_arguments e_counter e_temporaries e_arguments, B_g cI cM a_g a_g_kinds a_g_positions g_count g_kept g_kinds g_positions, hW cI cM a_h_ad h_hs]) (Bs1 := [B_x cI cM a_x a_x_hoistedOfCall a_o a_d a_h a_e a_g x_hoistedOfCall, B_o cI cM a_o a_t a_m a_k , B_t cI cM a_t a_t_supertypes t_count t_interfaceSet t_supertypes, B_m cI cM a_m a_m_type a_m_name a_m_arity a_m_keys a_m_defaults m_count m_type m_name m_arity m_keys m_defaults, B_k cI cM a_k a_k_staticType a_k_dynamicType a_k_target a_k_argumentCounts a_k_temporaryCounts a_k_keys a_k_kinds a_k_values a_k_temporaryKinds a_k_newKinds a_k_newValues k_count k_frozenSet k_staticType k_dynamicType k_target k_argumentCounts k_temporaryCounts k_keys k_kinds k_values k_temporaryKinds k_newKinds k_newValues, B_d cI cM a_d a_d_sources a_d_keys a_d_defaults g10 d_method d_family d_oldCount d_keptSet d_count d_sources d_keys d_defaults d_usedKeys, B_h cI cM a_h a_h_saved a_h_ad g11 g12, B_e cI cM a_e a_e_temporaries a_e_arguments e_counter e_temporaries e_arguments, B_g cI cM a_g a_g_kinds a_g_positions g_count g_kept g_kinds g_positions, hW cI cM a_h_ad g13]) SS hKK (qX8_beginEdit l D cI cM a_x a_x_hoistedOfCall a_o a_t a_t_supertypes a_m a_m_type a_m_name a_m_arity a_m_keys a_m_defaults a_k a_k_staticType a_k_dynamicType a_k_target a_k_argumentCounts a_k_temporaryCounts a_k_keys a_k_kinds a_k_values a_k_temporaryKinds a_k_newKinds a_k_newValues a_d a_d_sources a_d_keys a_d_defaults a_h a_h_saved a_e a_e_temporaries a_e_arguments a_g a_g_kinds a_g_positions a_h_ad x_hoistedOfCall t_count t_interfaceSet t_supertypes m_count m_type m_name m_arity m_keys m_defaults k_count k_frozenSet k_staticType k_dynamicType k_target k_argumentCounts k_temporaryCounts k_keys k_kinds k_values k_temporaryKinds k_newKinds k_newValues d_open d_method d_family d_oldCount d_keptSet d_count d_sources d_keys d_defaults d_usedKeys h_count h_next e_counter e_temporaries e_arguments g_count g_kept g_kinds g_positions h_hs g10 g11 g12 g13 eg10) cw79 hP hD hS (isC := [0, 1, 2, 3, 4, 5, 6, 7, 8, 9]) (isR := []) (C0 := [B_x cI cM a_x a_x_hoistedOfCall a_o a_d a_h a_e a_g x_hoistedOfCall, B_o cI cM a_o a_t a_m a_k , B_t cI cM a_t a_t_supertypes t_count t_interfaceSet t_supertypes, B_m cI cM a_m a_m_type a_m_name a_m_arity a_m_keys a_m_defaults m_count m_type m_name m_arity m_keys m_defaults, B_k cI cM a_k a_k_staticType a_k_dynamicType a_k_target a_k_argumentCounts a_k_temporaryCounts a_k_keys a_k_kinds a_k_values a_k_temporaryKinds a_k_newKinds a_k_newValues k_count k_frozenSet k_staticType k_dynamicType k_target k_argumentCounts k_temporaryCounts k_keys k_kinds k_values k_temporaryKinds k_newKinds k_newValues, B_d cI cM a_d a_d_sources a_d_keys a_d_defaults d_open d_method d_family d_oldCount d_keptSet d_count d_sources d_keys d_defaults d_usedKeys, B_h cI cM a_h a_h_saved a_h_ad h_count h_next, B_e cI cM a_e a_e_temporaries a_e_arguments e_counter e_temporaries e_arguments, B_g cI cM a_g a_g_kinds a_g_positions g_count g_kept g_kinds g_positions, hW cI cM a_h_ad h_hs]) (C1 := [B_x cI cM a_x a_x_hoistedOfCall a_o a_d a_h a_e a_g x_hoistedOfCall, B_o cI cM a_o a_t a_m a_k , B_t cI cM a_t a_t_supertypes t_count t_interfaceSet t_supertypes, B_m cI cM a_m a_m_type a_m_name a_m_arity a_m_keys a_m_defaults m_count m_type m_name m_arity m_keys m_defaults, B_k cI cM a_k a_k_staticType a_k_dynamicType a_k_target a_k_argumentCounts a_k_temporaryCounts a_k_keys a_k_kinds a_k_values a_k_temporaryKinds a_k_newKinds a_k_newValues k_count k_frozenSet k_staticType k_dynamicType k_target k_argumentCounts k_temporaryCounts k_keys k_kinds k_values k_temporaryKinds k_newKinds k_newValues, B_d cI cM a_d a_d_sources a_d_keys a_d_defaults g10 d_method d_family d_oldCount d_keptSet d_count d_sources d_keys d_defaults d_usedKeys, B_h cI cM a_h a_h_saved a_h_ad g11 g12, B_e cI cM a_e a_e_temporaries a_e_arguments e_counter e_temporaries e_arguments, B_g cI cM a_g a_g_kinds a_g_positions g_count g_kept g_kinds g_positions, hW cI cM a_h_ad g13]) (Rr := []) (show (List.range 10).Perm ([0, 1, 2, 3, 4, 5, 6, 7, 8, 9] ++ []) by decide) rfl rfl rfl rfl rfl rfl rfl (hW_addr rfl) 0 8 rfl rfl rfl hl.1 rfl (Nat.le_of_ble_eq_true rfl) dX8_setArgument_58 ⟨Nat.zero_le _, Nat.zero_le _⟩ rfl (fun H locs hP hD hS => ?_)
          have hP : va_P D vwCl (W_x_o_t_m_k_d_h_e_g cI cM a_x a_x_hoistedOfCall a_o a_t a_t_supertypes a_m a_m_type a_m_name a_m_arity a_m_keys a_m_defaults a_k a_k_staticType a_k_dynamicType a_k_target a_k_argumentCounts a_k_temporaryCounts a_k_keys a_k_kinds a_k_values a_k_temporaryKinds a_k_newKinds a_k_newValues a_d a_d_sources a_d_keys a_d_defaults a_h a_h_saved a_e a_e_temporaries a_e_arguments a_g a_g_kinds a_g_positions a_h_ad x_hoistedOfCall t_count t_interfaceSet t_supertypes m_count m_type m_name m_arity m_keys m_defaults k_count k_frozenSet k_staticType k_dynamicType k_target k_argumentCounts k_temporaryCounts k_keys k_kinds k_values k_temporaryKinds k_newKinds k_newValues g10 d_method d_family d_oldCount d_keptSet d_count d_sources d_keys d_defaults d_usedKeys g11 g12 e_counter e_temporaries e_arguments g_count g_kept g_kinds g_positions ++ hW cI cM a_h_ad g13) H := hP
          have hD : va_D _ (W_x_o_t_m_k_d_h_e_g cI cM a_x a_x_hoistedOfCall a_o a_t a_t_supertypes a_m a_m_type a_m_name a_m_arity a_m_keys a_m_defaults a_k a_k_staticType a_k_dynamicType a_k_target a_k_argumentCounts a_k_temporaryCounts a_k_keys a_k_kinds a_k_values a_k_temporaryKinds a_k_newKinds a_k_newValues a_d a_d_sources a_d_keys a_d_defaults a_h a_h_saved a_e a_e_temporaries a_e_arguments a_g a_g_kinds a_g_positions a_h_ad x_hoistedOfCall t_count t_interfaceSet t_supertypes m_count m_type m_name m_arity m_keys m_defaults k_count k_frozenSet k_staticType k_dynamicType k_target k_argumentCounts k_temporaryCounts k_keys k_kinds k_values k_temporaryKinds k_newKinds k_newValues g10 d_method d_family d_oldCount d_keptSet d_count d_sources d_keys d_defaults d_usedKeys g11 g12 e_counter e_temporaries e_arguments g_count g_kept g_kinds g_positions ++ hW cI cM a_h_ad g13) := hD
          refine lv_aload hx hb dX8_setArgument_61 (lv_at hl 1 rfl) ?_
          refine lv_iload_n hx hb dX8_setArgument_63 rfl (lv_at hl 3 rfl) ?_
          refine lv_iload_n hx hb dX8_setArgument_64 rfl (lv_at hl 4 rfl) ?_
          refine lv_iload_n hx hb dX8_setArgument_65 rfl (lv_at hl 5 rfl) ?_
          refine lv_iload hx hb dX8_setArgument_66 (lv_at hl 6 rfl) ?_
          obtain ⟨g14, g15, eg14, h⟩ := bn2_some h
          refine kVB (As := [.int x1, .int x2, .int x3, .int x4]) (rest := []) (st1 := []) (Bs := [B_x cI cM a_x a_x_hoistedOfCall a_o a_d a_h a_e a_g x_hoistedOfCall, B_o cI cM a_o a_t a_m a_k , B_t cI cM a_t a_t_supertypes t_count t_interfaceSet t_supertypes, B_m cI cM a_m a_m_type a_m_name a_m_arity a_m_keys a_m_defaults m_count m_type m_name m_arity m_keys m_defaults, B_k cI cM a_k a_k_staticType a_k_dynamicType a_k_target a_k_argumentCounts a_k_temporaryCounts a_k_keys a_k_kinds a_k_values a_k_temporaryKinds a_k_newKinds a_k_newValues k_count k_frozenSet k_staticType k_dynamicType k_target k_argumentCounts k_temporaryCounts k_keys k_kinds k_values k_temporaryKinds k_newKinds k_newValues, B_d cI cM a_d a_d_sources a_d_keys a_d_defaults g10 d_method d_family d_oldCount d_keptSet d_count d_sources d_keys d_defaults d_usedKeys, B_h cI cM a_h a_h_saved a_h_ad g11 g12, B_e cI cM a_e a_e_temporaries a_e_arguments e_counter e_temporaries e_arguments, B_g cI cM a_g a_g_kinds a_g_positions g_count g_kept g_kinds g_positions, hW cI cM a_h_ad g13]) (Bs1 := [B_x cI cM a_x a_x_hoistedOfCall a_o a_d a_h a_e a_g x_hoistedOfCall, B_o cI cM a_o a_t a_m a_k , B_t cI cM a_t a_t_supertypes t_count t_interfaceSet t_supertypes, B_m cI cM a_m a_m_type a_m_name a_m_arity a_m_keys a_m_defaults m_count m_type m_name m_arity m_keys m_defaults, B_k cI cM a_k a_k_staticType a_k_dynamicType a_k_target a_k_argumentCounts a_k_temporaryCounts a_k_keys a_k_kinds a_k_values a_k_temporaryKinds a_k_newKinds a_k_newValues k_count k_frozenSet k_staticType k_dynamicType k_target k_argumentCounts k_temporaryCounts k_keys g14 g15 k_temporaryKinds k_newKinds k_newValues, B_d cI cM a_d a_d_sources a_d_keys a_d_defaults g10 d_method d_family d_oldCount d_keptSet d_count d_sources d_keys d_defaults d_usedKeys, B_h cI cM a_h a_h_saved a_h_ad g11 g12, B_e cI cM a_e a_e_temporaries a_e_arguments e_counter e_temporaries e_arguments, B_g cI cM a_g a_g_kinds a_g_positions g_count g_kept g_kinds g_positions, hW cI cM a_h_ad g13]) SS hKK (qX0_putArgument l D cI cM a_k a_k_staticType a_k_dynamicType a_k_target a_k_argumentCounts a_k_temporaryCounts a_k_keys a_k_kinds a_k_values a_k_temporaryKinds a_k_newKinds a_k_newValues k_count k_frozenSet k_staticType k_dynamicType k_target k_argumentCounts k_temporaryCounts k_keys k_kinds k_values k_temporaryKinds k_newKinds k_newValues x1 x2 x3 x4 g14 g15 eg14) cw146 hP hD hS (isC := [4]) (isR := [0, 1, 2, 3, 5, 6, 7, 8, 9]) (C0 := [B_k cI cM a_k a_k_staticType a_k_dynamicType a_k_target a_k_argumentCounts a_k_temporaryCounts a_k_keys a_k_kinds a_k_values a_k_temporaryKinds a_k_newKinds a_k_newValues k_count k_frozenSet k_staticType k_dynamicType k_target k_argumentCounts k_temporaryCounts k_keys k_kinds k_values k_temporaryKinds k_newKinds k_newValues]) (C1 := [B_k cI cM a_k a_k_staticType a_k_dynamicType a_k_target a_k_argumentCounts a_k_temporaryCounts a_k_keys a_k_kinds a_k_values a_k_temporaryKinds a_k_newKinds a_k_newValues k_count k_frozenSet k_staticType k_dynamicType k_target k_argumentCounts k_temporaryCounts k_keys g14 g15 k_temporaryKinds k_newKinds k_newValues]) (Rr := [B_x cI cM a_x a_x_hoistedOfCall a_o a_d a_h a_e a_g x_hoistedOfCall, B_o cI cM a_o a_t a_m a_k , B_t cI cM a_t a_t_supertypes t_count t_interfaceSet t_supertypes, B_m cI cM a_m a_m_type a_m_name a_m_arity a_m_keys a_m_defaults m_count m_type m_name m_arity m_keys m_defaults, B_d cI cM a_d a_d_sources a_d_keys a_d_defaults g10 d_method d_family d_oldCount d_keptSet d_count d_sources d_keys d_defaults d_usedKeys, B_h cI cM a_h a_h_saved a_h_ad g11 g12, B_e cI cM a_e a_e_temporaries a_e_arguments e_counter e_temporaries e_arguments, B_g cI cM a_g a_g_kinds a_g_positions g_count g_kept g_kinds g_positions, hW cI cM a_h_ad g13]) (show (List.range 10).Perm ([4] ++ [0, 1, 2, 3, 5, 6, 7, 8, 9]) by decide) rfl rfl rfl rfl rfl rfl rfl rfl 0 0 rfl rfl rfl hl.1 rfl (Nat.le_of_ble_eq_true rfl) dX8_setArgument_68 ⟨Nat.zero_le _, Nat.zero_le _⟩ rfl (fun H locs hP hD hS => ?_)
          have hP : va_P D vwCl (W_x_o_t_m_k_d_h_e_g cI cM a_x a_x_hoistedOfCall a_o a_t a_t_supertypes a_m a_m_type a_m_name a_m_arity a_m_keys a_m_defaults a_k a_k_staticType a_k_dynamicType a_k_target a_k_argumentCounts a_k_temporaryCounts a_k_keys a_k_kinds a_k_values a_k_temporaryKinds a_k_newKinds a_k_newValues a_d a_d_sources a_d_keys a_d_defaults a_h a_h_saved a_e a_e_temporaries a_e_arguments a_g a_g_kinds a_g_positions a_h_ad x_hoistedOfCall t_count t_interfaceSet t_supertypes m_count m_type m_name m_arity m_keys m_defaults k_count k_frozenSet k_staticType k_dynamicType k_target k_argumentCounts k_temporaryCounts k_keys g14 g15 k_temporaryKinds k_newKinds k_newValues g10 d_method d_family d_oldCount d_keptSet d_count d_sources d_keys d_defaults d_usedKeys g11 g12 e_counter e_temporaries e_arguments g_count g_kept g_kinds g_positions ++ hW cI cM a_h_ad g13) H := hP
          have hD : va_D _ (W_x_o_t_m_k_d_h_e_g cI cM a_x a_x_hoistedOfCall a_o a_t a_t_supertypes a_m a_m_type a_m_name a_m_arity a_m_keys a_m_defaults a_k a_k_staticType a_k_dynamicType a_k_target a_k_argumentCounts a_k_temporaryCounts a_k_keys a_k_kinds a_k_values a_k_temporaryKinds a_k_newKinds a_k_newValues a_d a_d_sources a_d_keys a_d_defaults a_h a_h_saved a_e a_e_temporaries a_e_arguments a_g a_g_kinds a_g_positions a_h_ad x_hoistedOfCall t_count t_interfaceSet t_supertypes m_count m_type m_name m_arity m_keys m_defaults k_count k_frozenSet k_staticType k_dynamicType k_target k_argumentCounts k_temporaryCounts k_keys g14 g15 k_temporaryKinds k_newKinds k_newValues g10 d_method d_family d_oldCount d_keptSet d_count d_sources d_keys d_defaults d_usedKeys g11 g12 e_counter e_temporaries e_arguments g_count g_kept g_kinds g_positions ++ hW cI cM a_h_ad g13) := hD
          refine lv_iload hx hb dX8_setArgument_71 (lv_at hl 0 rfl) ?_
          simp only [Option.some.injEq, Prod.mk.injEq] at h
          obtain ⟨e0, e1, e2, e3, e4, e5, e6⟩ := h
          exact kRetI hx hb hr hlk e0 (by rw [← hw1, ← e1, ← e2, ← e3, ← e4, ← e5, ← e6]; exact hP) hS dX8_setArgument_73
        · have h := ifp h c9
          refine lv_bipush (v := (-2)) hx hb dX8_setArgument_54 (by decide) ?_
          simp only [Option.some.injEq, Prod.mk.injEq] at h
          obtain ⟨e0, e1, e2, e3, e4, e5, e6⟩ := h
          exact kRetI hx hb hr hlk e0 (by rw [← hw1, ← e1, ← e2, ← e3, ← e4, ← e5, ← e6]; exact hP) hS dX8_setArgument_56
    · have h := ifp h c5
      refine lv_iconst (v := (-1)) hx hb dX8_setArgument_28 (by decide) ?_
      simp only [Option.some.injEq, Prod.mk.injEq] at h
      obtain ⟨e0, e1, e2, e3, e4, e5, e6⟩ := h
      exact kRetI hx hb hr hlk e0 (by rw [← hw1, ← e1, ← e2, ← e3, ← e4, ← e5, ← e6]; exact hP) hS dX8_setArgument_29
