/-! generated: X8.hoistedArguments X8.bridgeTypes X8.breaksFrozenCall X8.chooseHoisted X8.applyChange X8.undo X9.in X9.has X9.edit X9.undo X9.isType X9.isInterface X9.closed X9.supers X9.areConnected X9.allInterfaces X9.of X9.isMethod X9.isNamed X9.areAlikeNamed X9.haveSameList -/
set_option maxHeartbeats 8000000 in
set_option maxRecDepth 100000 in
theorem qX8_hoistedArguments (l : Launch) (D : va_G) (cI cM : ClassId) (a_x a_x_hoistedOfCall a_o a_t a_t_supertypes a_m a_m_type a_m_name a_m_arity a_m_keys a_m_defaults a_k a_k_staticType a_k_dynamicType a_k_target a_k_argumentCounts a_k_temporaryCounts a_k_keys a_k_kinds a_k_values a_k_temporaryKinds a_k_newKinds a_k_newValues a_d a_d_sources a_d_keys a_d_defaults a_h a_h_saved a_e a_e_temporaries a_e_arguments a_g a_g_kinds a_g_positions : Nat) (a_h_ad : Nat → Nat → Nat) (x_hoistedOfCall : Nat → Int32) (t_count : Int32) (t_interfaceSet : Int32) (t_supertypes : Nat → Int32) (m_count : Int32) (m_type : Nat → Int32) (m_name : Nat → Int32) (m_arity : Nat → Int32) (m_keys : Nat → Int32) (m_defaults : Nat → Int32) (k_count : Int32) (k_frozenSet : Int32) (k_staticType : Nat → Int32) (k_dynamicType : Nat → Int32) (k_target : Nat → Int32) (k_argumentCounts : Nat → Int32) (k_temporaryCounts : Nat → Int32) (k_keys : Nat → Int32) (k_kinds : Nat → Int32) (k_values : Nat → Int32) (k_temporaryKinds : Nat → Int32) (k_newKinds : Nat → Int32) (k_newValues : Nat → Int32) (d_open : Int32) (d_method : Int32) (d_family : Int32) (d_oldCount : Int32) (d_keptSet : Int32) (d_count : Int32) (d_sources : Nat → Int32) (d_keys : Nat → Int32) (d_defaults : Nat → Int32) (d_usedKeys : Int32) (h_count : Int32) (h_next : Int32) (e_counter : Int32) (e_temporaries : Nat → Int32) (e_arguments : Nat → Int32) (g_count : Int32) (g_kept : Int32) (g_kinds : Nat → Int32) (g_positions : Nat → Int32) (x1 : Int32) (r : Int32) (r_g_count : Int32) (r_g_kept : Int32) (r_g_kinds : Nat → Int32) (r_g_positions : Nat → Int32) (h : fX8_hoistedArguments k_count k_frozenSet k_target k_argumentCounts k_kinds d_open d_family d_keptSet d_count d_sources g_count g_kept g_kinds g_positions x1 = some (r, r_g_count, r_g_kept, r_g_kinds, r_g_positions)) : IM l yX8_hoistedArguments wsX8_hoistedArguments rmX8_hoistedArguments D cI cM [.ref a_x, .int x1] (W_x_o_t_m_k_d_h_e_g cI cM a_x a_x_hoistedOfCall a_o a_t a_t_supertypes a_m a_m_type a_m_name a_m_arity a_m_keys a_m_defaults a_k a_k_staticType a_k_dynamicType a_k_target a_k_argumentCounts a_k_temporaryCounts a_k_keys a_k_kinds a_k_values a_k_temporaryKinds a_k_newKinds a_k_newValues a_d a_d_sources a_d_keys a_d_defaults a_h a_h_saved a_e a_e_temporaries a_e_arguments a_g a_g_kinds a_g_positions a_h_ad x_hoistedOfCall t_count t_interfaceSet t_supertypes m_count m_type m_name m_arity m_keys m_defaults k_count k_frozenSet k_staticType k_dynamicType k_target k_argumentCounts k_temporaryCounts k_keys k_kinds k_values k_temporaryKinds k_newKinds k_newValues d_open d_method d_family d_oldCount d_keptSet d_count d_sources d_keys d_defaults d_usedKeys h_count h_next e_counter e_temporaries e_arguments g_count g_kept g_kinds g_positions) (W_x_o_t_m_k_d_h_e_g cI cM a_x a_x_hoistedOfCall a_o a_t a_t_supertypes a_m a_m_type a_m_name a_m_arity a_m_keys a_m_defaults a_k a_k_staticType a_k_dynamicType a_k_target a_k_argumentCounts a_k_temporaryCounts a_k_keys a_k_kinds a_k_values a_k_temporaryKinds a_k_newKinds a_k_newValues a_d a_d_sources a_d_keys a_d_defaults a_h a_h_saved a_e a_e_temporaries a_e_arguments a_g a_g_kinds a_g_positions a_h_ad x_hoistedOfCall t_count t_interfaceSet t_supertypes m_count m_type m_name m_arity m_keys m_defaults k_count k_frozenSet k_staticType k_dynamicType k_target k_argumentCounts k_temporaryCounts k_keys k_kinds k_values k_temporaryKinds k_newKinds k_newValues d_open d_method d_family d_oldCount d_keptSet d_count d_sources d_keys d_defaults d_usedKeys h_count h_next e_counter e_temporaries e_arguments r_g_count r_g_kept r_g_kinds r_g_positions) (some (.int r)) := by
  refine IM.of (cc := cX8_hoistedArguments) (maxL := 3) (ret := (some .int)) (by decide) rfl (Nat.le_of_ble_eq_true rfl) ?_
  intro p e s m below meth c ls hx hb hr hml hown hts hlk hKK hP hD hS hl
  have hown : s.vm.findClass RX8 = some m.cls := hown
  have hl : lv_has ls 3 [(0, .ref a_x), (1, .int x1)] := hl
  generalize hav : ([.ref a_x, .int x1] : List Value) = av at hts ⊢
  generalize hw1 : W_x_o_t_m_k_d_h_e_g cI cM a_x a_x_hoistedOfCall a_o a_t a_t_supertypes a_m a_m_type a_m_name a_m_arity a_m_keys a_m_defaults a_k a_k_staticType a_k_dynamicType a_k_target a_k_argumentCounts a_k_temporaryCounts a_k_keys a_k_kinds a_k_values a_k_temporaryKinds a_k_newKinds a_k_newValues a_d a_d_sources a_d_keys a_d_defaults a_h a_h_saved a_e a_e_temporaries a_e_arguments a_g a_g_kinds a_g_positions a_h_ad x_hoistedOfCall t_count t_interfaceSet t_supertypes m_count m_type m_name m_arity m_keys m_defaults k_count k_frozenSet k_staticType k_dynamicType k_target k_argumentCounts k_temporaryCounts k_keys k_kinds k_values k_temporaryKinds k_newKinds k_newValues d_open d_method d_family d_oldCount d_keptSet d_count d_sources d_keys d_defaults d_usedKeys h_count h_next e_counter e_temporaries e_arguments r_g_count r_g_kept r_g_kinds r_g_positions = w1
  generalize hw0 : W_x_o_t_m_k_d_h_e_g cI cM a_x a_x_hoistedOfCall a_o a_t a_t_supertypes a_m a_m_type a_m_name a_m_arity a_m_keys a_m_defaults a_k a_k_staticType a_k_dynamicType a_k_target a_k_argumentCounts a_k_temporaryCounts a_k_keys a_k_kinds a_k_values a_k_temporaryKinds a_k_newKinds a_k_newValues a_d a_d_sources a_d_keys a_d_defaults a_h a_h_saved a_e a_e_temporaries a_e_arguments a_g a_g_kinds a_g_positions a_h_ad x_hoistedOfCall t_count t_interfaceSet t_supertypes m_count m_type m_name m_arity m_keys m_defaults k_count k_frozenSet k_staticType k_dynamicType k_target k_argumentCounts k_temporaryCounts k_keys k_kinds k_values k_temporaryKinds k_newKinds k_newValues d_open d_method d_family d_oldCount d_keptSet d_count d_sources d_keys d_defaults d_usedKeys h_count h_next e_counter e_temporaries e_arguments g_count g_kept g_kinds g_positions = w0 at hD hS ⊢
  have hP : va_P D vwCl (W_x_o_t_m_k_d_h_e_g cI cM a_x a_x_hoistedOfCall a_o a_t a_t_supertypes a_m a_m_type a_m_name a_m_arity a_m_keys a_m_defaults a_k a_k_staticType a_k_dynamicType a_k_target a_k_argumentCounts a_k_temporaryCounts a_k_keys a_k_kinds a_k_values a_k_temporaryKinds a_k_newKinds a_k_newValues a_d a_d_sources a_d_keys a_d_defaults a_h a_h_saved a_e a_e_temporaries a_e_arguments a_g a_g_kinds a_g_positions a_h_ad x_hoistedOfCall t_count t_interfaceSet t_supertypes m_count m_type m_name m_arity m_keys m_defaults k_count k_frozenSet k_staticType k_dynamicType k_target k_argumentCounts k_temporaryCounts k_keys k_kinds k_values k_temporaryKinds k_newKinds k_newValues d_open d_method d_family d_oldCount d_keptSet d_count d_sources d_keys d_defaults d_usedKeys h_count h_next e_counter e_temporaries e_arguments g_count g_kept g_kinds g_positions) s.heap := hP
  have hD : va_D (fun q => q ∈ w0.map (·.1)) (W_x_o_t_m_k_d_h_e_g cI cM a_x a_x_hoistedOfCall a_o a_t a_t_supertypes a_m a_m_type a_m_name a_m_arity a_m_keys a_m_defaults a_k a_k_staticType a_k_dynamicType a_k_target a_k_argumentCounts a_k_temporaryCounts a_k_keys a_k_kinds a_k_values a_k_temporaryKinds a_k_newKinds a_k_newValues a_d a_d_sources a_d_keys a_d_defaults a_h a_h_saved a_e a_e_temporaries a_e_arguments a_g a_g_kinds a_g_positions a_h_ad x_hoistedOfCall t_count t_interfaceSet t_supertypes m_count m_type m_name m_arity m_keys m_defaults k_count k_frozenSet k_staticType k_dynamicType k_target k_argumentCounts k_temporaryCounts k_keys k_kinds k_values k_temporaryKinds k_newKinds k_newValues d_open d_method d_family d_oldCount d_keptSet d_count d_sources d_keys d_defaults d_usedKeys h_count h_next e_counter e_temporaries e_arguments g_count g_kept g_kinds g_positions) := by rw [hw0]; exact hD
  have SS : CallFix p m c cX8_hoistedArguments 3 s av.toArray wsX8_hoistedArguments RX8 := ⟨hx, hb, hml, hown, hts⟩
  have hinX1 : ∀ w ∈ u_ws RX1 TX1 10, w ∈ wsX8_hoistedArguments := by decide +kernel
  have hinX6 : ∀ w ∈ u_ws RX6 TX6 3, w ∈ wsX8_hoistedArguments := by decide +kernel
  have hinX8 : ∀ w ∈ u_ws RX8 TX8 6, w ∈ wsX8_hoistedArguments := by decide +kernel
  have lk10 := hts (.fieldLink RX8 10 "SignatureChanger" "model" "LSignatureChanger$Model;") (List.mem_of_getElem? (i := 1) rfl)
  have lk19 := hts (.fieldLink RX8 19 "SignatureChanger" "draft" "LSignatureChanger$Draft;") (List.mem_of_getElem? (i := 3) rfl)
  have lk40 := hts (.fieldLink RX8 40 "SignatureChanger" "hoisting" "LSignatureChanger$Hoisting;") (List.mem_of_getElem? (i := 5) rfl)
  have lk124 := hts (.fieldLink RX8 124 "SignatureChanger$Model" "calls" "LSignatureChanger$Calls;") (List.mem_of_getElem? (i := 2) rfl)
  have lk197 := hts (.fieldLink RX8 197 "SignatureChanger$Draft" "open" "Z") (List.mem_of_getElem? (i := 4) rfl)
  have cw150 : CallW rmX8_hoistedArguments s av.toArray RX8 RX0 150 yX0_exists cX0_exists 2 (some .boolean) wsX0_exists rmX0_exists 0 0 1 := cwV 1 hts gX8_hoistedArguments_X0_exists rfl rfl rfl (by decide +kernel) ⟨Nat.le_of_ble_eq_true rfl, Nat.le_of_ble_eq_true rfl⟩
  have cw207 : CallB rmX8_hoistedArguments s av.toArray RX8 207 yX8_contains cX8_contains 2 (some .boolean) wsX8_contains rmX8_contains 0 0 2 ∧ (Cond.static yX8_contains).before av.toArray s = true := va_cwS 2 hts gX8_hoistedArguments_X8_contains rfl rfl rfl (by decide +kernel) ⟨Nat.le_of_ble_eq_true rfl, Nat.le_of_ble_eq_true rfl⟩
  have cw225 : CallW rmX8_hoistedArguments s av.toArray RX8 RX8 225 yX8_rewrittenCalls cX8_rewrittenCalls 1 (some .int) wsX8_rewrittenCalls rmX8_rewrittenCalls 0 0 0 := cwV 0 hts gX8_hoistedArguments_X8_rewrittenCalls rfl rfl rfl (by decide +kernel) ⟨Nat.le_of_ble_eq_true rfl, Nat.le_of_ble_eq_true rfl⟩
  have cw229 : CallW rmX8_hoistedArguments s av.toArray RX8 RX4 229 yX4_choose cX4_choose 10 (some .int) wsX4_choose rmX4_choose 0 0 3 := cwV 3 hts gX8_hoistedArguments_X4_choose rfl rfl rfl (by decide +kernel) ⟨Nat.le_of_ble_eq_true rfl, Nat.le_of_ble_eq_true rfl⟩
  unfold fX8_hoistedArguments at h
  refine lv_aload_n hx hb dX8_hoistedArguments_0 rfl (lv_at hl 0 rfl) ?_
  refine va_get (D := D) (ci := 8) (v := .ref a_o) (C := RX8) (T := TX8) (N := 6) hx hb hts hinX8 hown hKK.1 hP 0 rfl rfl 0 (by decide) lk10 (fun _ h9 => h9) rfl dX8_hoistedArguments_1 ?_
  refine va_get (D := D) (ci := 6) (v := .ref a_k) (C := RX6) (T := TX6) (N := 3) hx hb hts hinX6 hown hKK.1 hP 2 rfl rfl 2 (by decide) lk124 (fun _ h9 => h9) rfl dX8_hoistedArguments_4 ?_
  refine lv_iload_n hx hb dX8_hoistedArguments_7 rfl (lv_at hl 1 rfl) ?_
  obtain ⟨v1, ev1, h⟩ := bn_some h
  have hs2 : va_P D vwCl (W_k cI cM a_k a_k_staticType a_k_dynamicType a_k_target a_k_argumentCounts a_k_temporaryCounts a_k_keys a_k_kinds a_k_values a_k_temporaryKinds a_k_newKinds a_k_newValues k_count k_frozenSet k_staticType k_dynamicType k_target k_argumentCounts k_temporaryCounts k_keys k_kinds k_values k_temporaryKinds k_newKinds k_newValues) _ := blkP (Bs := [B_x cI cM a_x a_x_hoistedOfCall a_o a_d a_h a_e a_g x_hoistedOfCall, B_o cI cM a_o a_t a_m a_k , B_t cI cM a_t a_t_supertypes t_count t_interfaceSet t_supertypes, B_m cI cM a_m a_m_type a_m_name a_m_arity a_m_keys a_m_defaults m_count m_type m_name m_arity m_keys m_defaults, B_k cI cM a_k a_k_staticType a_k_dynamicType a_k_target a_k_argumentCounts a_k_temporaryCounts a_k_keys a_k_kinds a_k_values a_k_temporaryKinds a_k_newKinds a_k_newValues k_count k_frozenSet k_staticType k_dynamicType k_target k_argumentCounts k_temporaryCounts k_keys k_kinds k_values k_temporaryKinds k_newKinds k_newValues, B_d cI cM a_d a_d_sources a_d_keys a_d_defaults d_open d_method d_family d_oldCount d_keptSet d_count d_sources d_keys d_defaults d_usedKeys, B_h cI cM a_h a_h_saved a_h_ad h_count h_next, B_e cI cM a_e a_e_temporaries a_e_arguments e_counter e_temporaries e_arguments, B_g cI cM a_g a_g_kinds a_g_positions g_count g_kept g_kinds g_positions]) hP [4] (C0 := [B_k cI cM a_k a_k_staticType a_k_dynamicType a_k_target a_k_argumentCounts a_k_temporaryCounts a_k_keys a_k_kinds a_k_values a_k_temporaryKinds a_k_newKinds a_k_newValues k_count k_frozenSet k_staticType k_dynamicType k_target k_argumentCounts k_temporaryCounts k_keys k_kinds k_values k_temporaryKinds k_newKinds k_newValues]) rfl rfl
  refine kV (As := [.int x1]) (rest := []) SS hKK (qX0_exists l D cI cM a_k a_k_staticType a_k_dynamicType a_k_target a_k_argumentCounts a_k_temporaryCounts a_k_keys a_k_kinds a_k_values a_k_temporaryKinds a_k_newKinds a_k_newValues k_count k_frozenSet k_staticType k_dynamicType k_target k_argumentCounts k_temporaryCounts k_keys k_kinds k_values k_temporaryKinds k_newKinds k_newValues x1 v1 ev1) cw150 hs2 0 0 rfl rfl rfl hl.1 rfl (Nat.le_of_ble_eq_true rfl) dX8_hoistedArguments_8 ⟨Nat.zero_le _, Nat.zero_le _⟩ ?_
  refine lv_if_ne (tgt := 16) hx hb dX8_hoistedArguments_11 (by decide) (fun c3 => ?_) (fun c3 => ?_)
  · have h := ifn h c3
    refine lv_aload_n hx hb dX8_hoistedArguments_16 rfl (lv_at hl 0 rfl) ?_
    refine va_get (D := D) (ci := 8) (v := .ref a_d) (C := RX8) (T := TX8) (N := 6) hx hb hts hinX8 hown hKK.1 hP 0 rfl rfl 1 (by decide) lk19 (fun _ h9 => h9) rfl dX8_hoistedArguments_17 ?_
    refine va_get (D := D) (ci := 1) (v := .int d_open) (C := RX1) (T := TX1) (N := 10) hx hb hts hinX1 hown hKK.1 hP 23 rfl rfl 0 (by decide) lk197 (fun _ h9 => h9) rfl dX8_hoistedArguments_20 ?_
    refine lv_if_ne (tgt := 29) hx hb dX8_hoistedArguments_23 (by decide) (fun c4 => ?_) (fun c4 => ?_)
    · have h := ifn h c4
      refine lv_aload_n hx hb dX8_hoistedArguments_29 rfl (lv_at hl 0 rfl) ?_
      obtain ⟨v5, ev5, h⟩ := bn_some h
      have hs6 : va_P D vwCl (W_x_o_t_m_k_d_h_e_g cI cM a_x a_x_hoistedOfCall a_o a_t a_t_supertypes a_m a_m_type a_m_name a_m_arity a_m_keys a_m_defaults a_k a_k_staticType a_k_dynamicType a_k_target a_k_argumentCounts a_k_temporaryCounts a_k_keys a_k_kinds a_k_values a_k_temporaryKinds a_k_newKinds a_k_newValues a_d a_d_sources a_d_keys a_d_defaults a_h a_h_saved a_e a_e_temporaries a_e_arguments a_g a_g_kinds a_g_positions a_h_ad x_hoistedOfCall t_count t_interfaceSet t_supertypes m_count m_type m_name m_arity m_keys m_defaults k_count k_frozenSet k_staticType k_dynamicType k_target k_argumentCounts k_temporaryCounts k_keys k_kinds k_values k_temporaryKinds k_newKinds k_newValues d_open d_method d_family d_oldCount d_keptSet d_count d_sources d_keys d_defaults d_usedKeys h_count h_next e_counter e_temporaries e_arguments g_count g_kept g_kinds g_positions) _ := blkP (Bs := [B_x cI cM a_x a_x_hoistedOfCall a_o a_d a_h a_e a_g x_hoistedOfCall, B_o cI cM a_o a_t a_m a_k , B_t cI cM a_t a_t_supertypes t_count t_interfaceSet t_supertypes, B_m cI cM a_m a_m_type a_m_name a_m_arity a_m_keys a_m_defaults m_count m_type m_name m_arity m_keys m_defaults, B_k cI cM a_k a_k_staticType a_k_dynamicType a_k_target a_k_argumentCounts a_k_temporaryCounts a_k_keys a_k_kinds a_k_values a_k_temporaryKinds a_k_newKinds a_k_newValues k_count k_frozenSet k_staticType k_dynamicType k_target k_argumentCounts k_temporaryCounts k_keys k_kinds k_values k_temporaryKinds k_newKinds k_newValues, B_d cI cM a_d a_d_sources a_d_keys a_d_defaults d_open d_method d_family d_oldCount d_keptSet d_count d_sources d_keys d_defaults d_usedKeys, B_h cI cM a_h a_h_saved a_h_ad h_count h_next, B_e cI cM a_e a_e_temporaries a_e_arguments e_counter e_temporaries e_arguments, B_g cI cM a_g a_g_kinds a_g_positions g_count g_kept g_kinds g_positions]) hP [0, 1, 2, 3, 4, 5, 6, 7, 8] (C0 := [B_x cI cM a_x a_x_hoistedOfCall a_o a_d a_h a_e a_g x_hoistedOfCall, B_o cI cM a_o a_t a_m a_k , B_t cI cM a_t a_t_supertypes t_count t_interfaceSet t_supertypes, B_m cI cM a_m a_m_type a_m_name a_m_arity a_m_keys a_m_defaults m_count m_type m_name m_arity m_keys m_defaults, B_k cI cM a_k a_k_staticType a_k_dynamicType a_k_target a_k_argumentCounts a_k_temporaryCounts a_k_keys a_k_kinds a_k_values a_k_temporaryKinds a_k_newKinds a_k_newValues k_count k_frozenSet k_staticType k_dynamicType k_target k_argumentCounts k_temporaryCounts k_keys k_kinds k_values k_temporaryKinds k_newKinds k_newValues, B_d cI cM a_d a_d_sources a_d_keys a_d_defaults d_open d_method d_family d_oldCount d_keptSet d_count d_sources d_keys d_defaults d_usedKeys, B_h cI cM a_h a_h_saved a_h_ad h_count h_next, B_e cI cM a_e a_e_temporaries a_e_arguments e_counter e_temporaries e_arguments, B_g cI cM a_g a_g_kinds a_g_positions g_count g_kept g_kinds g_positions]) rfl rfl
      refine kV (As := []) (rest := []) SS hKK (qX8_rewrittenCalls l D cI cM a_x a_x_hoistedOfCall a_o a_t a_t_supertypes a_m a_m_type a_m_name a_m_arity a_m_keys a_m_defaults a_k a_k_staticType a_k_dynamicType a_k_target a_k_argumentCounts a_k_temporaryCounts a_k_keys a_k_kinds a_k_values a_k_temporaryKinds a_k_newKinds a_k_newValues a_d a_d_sources a_d_keys a_d_defaults a_h a_h_saved a_e a_e_temporaries a_e_arguments a_g a_g_kinds a_g_positions a_h_ad x_hoistedOfCall t_count t_interfaceSet t_supertypes m_count m_type m_name m_arity m_keys m_defaults k_count k_frozenSet k_staticType k_dynamicType k_target k_argumentCounts k_temporaryCounts k_keys k_kinds k_values k_temporaryKinds k_newKinds k_newValues d_open d_method d_family d_oldCount d_keptSet d_count d_sources d_keys d_defaults d_usedKeys h_count h_next e_counter e_temporaries e_arguments g_count g_kept g_kinds g_positions v5 ev5) cw225 hs6 0 8 rfl rfl rfl hl.1 rfl (Nat.le_of_ble_eq_true rfl) dX8_hoistedArguments_30 ⟨Nat.zero_le _, Nat.zero_le _⟩ ?_
      refine lv_iload_n hx hb dX8_hoistedArguments_33 rfl (lv_at hl 1 rfl) ?_
      obtain ⟨v7, ev7, h⟩ := bn_some h
      refine kS (As := [.int v5, .int x1]) (rest := []) SS hKK (qX8_contains l D cI cM v5 x1 v7 ev7) cw207 va_P_nil rfl hl.1 rfl (Nat.le_of_ble_eq_true rfl) dX8_hoistedArguments_34 ⟨Nat.zero_le _, Nat.zero_le _⟩ ?_
      refine lv_istore_n (lv' := [(2, .int v7), (0, .ref a_x), (1, .int x1)]) hx hb dX8_hoistedArguments_37 rfl hl (by decide) rfl (fun ls hl => ?_)
      refine lv_iload_n hx hb dX8_hoistedArguments_38 rfl (lv_at hl 0 rfl) ?_
      refine lv_if_eq (tgt := 64) hx hb dX8_hoistedArguments_39 (by decide) (fun c8 => ?_) (fun c8 => ?_)
      · have h := ifp h c8
        refine lv_iconst (v := 0) hx hb dX8_hoistedArguments_64 (by decide) ?_
        simp only [Option.some.injEq, Prod.mk.injEq] at h
        obtain ⟨e0, e1, e2, e3, e4⟩ := h
        exact kRetI hx hb hr hlk e0 (by rw [← hw1, ← e1, ← e2, ← e3, ← e4]; exact hP) hS dX8_hoistedArguments_65
      · have h := ifn h c8
        refine lv_aload_n hx hb dX8_hoistedArguments_42 rfl (lv_at hl 1 rfl) ?_
        refine va_get (D := D) (ci := 8) (v := .ref a_g) (C := RX8) (T := TX8) (N := 6) hx hb hts hinX8 hown hKK.1 hP 0 rfl rfl 4 (by decide) lk40 (fun _ h9 => h9) rfl dX8_hoistedArguments_43 ?_
        refine lv_aload_n hx hb dX8_hoistedArguments_46 rfl (lv_at hl 1 rfl) ?_
        refine va_get (D := D) (ci := 8) (v := .ref a_o) (C := RX8) (T := TX8) (N := 6) hx hb hts hinX8 hown hKK.1 hP 0 rfl rfl 0 (by decide) lk10 (fun _ h9 => h9) rfl dX8_hoistedArguments_47 ?_
        refine va_get (D := D) (ci := 6) (v := .ref a_k) (C := RX6) (T := TX6) (N := 3) hx hb hts hinX6 hown hKK.1 hP 2 rfl rfl 2 (by decide) lk124 (fun _ h9 => h9) rfl dX8_hoistedArguments_50 ?_
        refine lv_iload_n hx hb dX8_hoistedArguments_53 rfl (lv_at hl 2 rfl) ?_
        refine lv_aload_n hx hb dX8_hoistedArguments_54 rfl (lv_at hl 1 rfl) ?_
        refine va_get (D := D) (ci := 8) (v := .ref a_d) (C := RX8) (T := TX8) (N := 6) hx hb hts hinX8 hown hKK.1 hP 0 rfl rfl 1 (by decide) lk19 (fun _ h9 => h9) rfl dX8_hoistedArguments_55 ?_
        obtain ⟨v9, g10, g11, g12, g13, ev9, h⟩ := bn5_some h
        refine kVB (As := [.ref a_k, .int x1, .ref a_d]) (rest := []) (st1 := [.int v9]) (Bs := [B_x cI cM a_x a_x_hoistedOfCall a_o a_d a_h a_e a_g x_hoistedOfCall, B_o cI cM a_o a_t a_m a_k , B_t cI cM a_t a_t_supertypes t_count t_interfaceSet t_supertypes, B_m cI cM a_m a_m_type a_m_name a_m_arity a_m_keys a_m_defaults m_count m_type m_name m_arity m_keys m_defaults, B_k cI cM a_k a_k_staticType a_k_dynamicType a_k_target a_k_argumentCounts a_k_temporaryCounts a_k_keys a_k_kinds a_k_values a_k_temporaryKinds a_k_newKinds a_k_newValues k_count k_frozenSet k_staticType k_dynamicType k_target k_argumentCounts k_temporaryCounts k_keys k_kinds k_values k_temporaryKinds k_newKinds k_newValues, B_d cI cM a_d a_d_sources a_d_keys a_d_defaults d_open d_method d_family d_oldCount d_keptSet d_count d_sources d_keys d_defaults d_usedKeys, B_h cI cM a_h a_h_saved a_h_ad h_count h_next, B_e cI cM a_e a_e_temporaries a_e_arguments e_counter e_temporaries e_arguments, B_g cI cM a_g a_g_kinds a_g_positions g_count g_kept g_kinds g_positions]) (Bs1 := [B_x cI cM a_x a_x_hoistedOfCall a_o a_d a_h a_e a_g x_hoistedOfCall, B_o cI cM a_o a_t a_m a_k , B_t cI cM a_t a_t_supertypes t_count t_interfaceSet t_supertypes, B_m cI cM a_m a_m_type a_m_name a_m_arity a_m_keys a_m_defaults m_count m_type m_name m_arity m_keys m_defaults, B_k cI cM a_k a_k_staticType a_k_dynamicType a_k_target a_k_argumentCounts a_k_temporaryCounts a_k_keys a_k_kinds a_k_values a_k_temporaryKinds a_k_newKinds a_k_newValues k_count k_frozenSet k_staticType k_dynamicType k_target k_argumentCounts k_temporaryCounts k_keys k_kinds k_values k_temporaryKinds k_newKinds k_newValues, B_d cI cM a_d a_d_sources a_d_keys a_d_defaults d_open d_method d_family d_oldCount d_keptSet d_count d_sources d_keys d_defaults d_usedKeys, B_h cI cM a_h a_h_saved a_h_ad h_count h_next, B_e cI cM a_e a_e_temporaries a_e_arguments e_counter e_temporaries e_arguments, B_g cI cM a_g a_g_kinds a_g_positions g10 g11 g12 g13]) SS hKK (qX4_choose l D cI cM a_g a_g_kinds a_g_positions a_k a_k_staticType a_k_dynamicType a_k_target a_k_argumentCounts a_k_temporaryCounts a_k_keys a_k_kinds a_k_values a_k_temporaryKinds a_k_newKinds a_k_newValues a_d a_d_sources a_d_keys a_d_defaults g_count g_kept g_kinds g_positions k_count k_frozenSet k_staticType k_dynamicType k_target k_argumentCounts k_temporaryCounts k_keys k_kinds k_values k_temporaryKinds k_newKinds k_newValues d_open d_method d_family d_oldCount d_keptSet d_count d_sources d_keys d_defaults d_usedKeys x1 v9 g10 g11 g12 g13 ev9) cw229 hP hD hS (isC := [8, 4, 5]) (isR := [0, 1, 2, 3, 6, 7]) (C0 := [B_g cI cM a_g a_g_kinds a_g_positions g_count g_kept g_kinds g_positions, B_k cI cM a_k a_k_staticType a_k_dynamicType a_k_target a_k_argumentCounts a_k_temporaryCounts a_k_keys a_k_kinds a_k_values a_k_temporaryKinds a_k_newKinds a_k_newValues k_count k_frozenSet k_staticType k_dynamicType k_target k_argumentCounts k_temporaryCounts k_keys k_kinds k_values k_temporaryKinds k_newKinds k_newValues, B_d cI cM a_d a_d_sources a_d_keys a_d_defaults d_open d_method d_family d_oldCount d_keptSet d_count d_sources d_keys d_defaults d_usedKeys]) (C1 := [B_g cI cM a_g a_g_kinds a_g_positions g10 g11 g12 g13, B_k cI cM a_k a_k_staticType a_k_dynamicType a_k_target a_k_argumentCounts a_k_temporaryCounts a_k_keys a_k_kinds a_k_values a_k_temporaryKinds a_k_newKinds a_k_newValues k_count k_frozenSet k_staticType k_dynamicType k_target k_argumentCounts k_temporaryCounts k_keys k_kinds k_values k_temporaryKinds k_newKinds k_newValues, B_d cI cM a_d a_d_sources a_d_keys a_d_defaults d_open d_method d_family d_oldCount d_keptSet d_count d_sources d_keys d_defaults d_usedKeys]) (Rr := [B_x cI cM a_x a_x_hoistedOfCall a_o a_d a_h a_e a_g x_hoistedOfCall, B_o cI cM a_o a_t a_m a_k , B_t cI cM a_t a_t_supertypes t_count t_interfaceSet t_supertypes, B_m cI cM a_m a_m_type a_m_name a_m_arity a_m_keys a_m_defaults m_count m_type m_name m_arity m_keys m_defaults, B_h cI cM a_h a_h_saved a_h_ad h_count h_next, B_e cI cM a_e a_e_temporaries a_e_arguments e_counter e_temporaries e_arguments]) (show (List.range 9).Perm ([8, 4, 5] ++ [0, 1, 2, 3, 6, 7]) by decide) rfl rfl rfl rfl rfl rfl rfl rfl 0 4 rfl rfl rfl hl.1 rfl (Nat.le_of_ble_eq_true rfl) dX8_hoistedArguments_58 ⟨Nat.zero_le _, Nat.zero_le _⟩ rfl (fun H locs hP hD hS => ?_)
        have hP : va_P D vwCl (W_x_o_t_m_k_d_h_e_g cI cM a_x a_x_hoistedOfCall a_o a_t a_t_supertypes a_m a_m_type a_m_name a_m_arity a_m_keys a_m_defaults a_k a_k_staticType a_k_dynamicType a_k_target a_k_argumentCounts a_k_temporaryCounts a_k_keys a_k_kinds a_k_values a_k_temporaryKinds a_k_newKinds a_k_newValues a_d a_d_sources a_d_keys a_d_defaults a_h a_h_saved a_e a_e_temporaries a_e_arguments a_g a_g_kinds a_g_positions a_h_ad x_hoistedOfCall t_count t_interfaceSet t_supertypes m_count m_type m_name m_arity m_keys m_defaults k_count k_frozenSet k_staticType k_dynamicType k_target k_argumentCounts k_temporaryCounts k_keys k_kinds k_values k_temporaryKinds k_newKinds k_newValues d_open d_method d_family d_oldCount d_keptSet d_count d_sources d_keys d_defaults d_usedKeys h_count h_next e_counter e_temporaries e_arguments g10 g11 g12 g13) H := hP
        have hD : va_D _ (W_x_o_t_m_k_d_h_e_g cI cM a_x a_x_hoistedOfCall a_o a_t a_t_supertypes a_m a_m_type a_m_name a_m_arity a_m_keys a_m_defaults a_k a_k_staticType a_k_dynamicType a_k_target a_k_argumentCounts a_k_temporaryCounts a_k_keys a_k_kinds a_k_values a_k_temporaryKinds a_k_newKinds a_k_newValues a_d a_d_sources a_d_keys a_d_defaults a_h a_h_saved a_e a_e_temporaries a_e_arguments a_g a_g_kinds a_g_positions a_h_ad x_hoistedOfCall t_count t_interfaceSet t_supertypes m_count m_type m_name m_arity m_keys m_defaults k_count k_frozenSet k_staticType k_dynamicType k_target k_argumentCounts k_temporaryCounts k_keys k_kinds k_values k_temporaryKinds k_newKinds k_newValues d_open d_method d_family d_oldCount d_keptSet d_count d_sources d_keys d_defaults d_usedKeys h_count h_next e_counter e_temporaries e_arguments g10 g11 g12 g13) := hD
        refine lv_goto (tgt := 65) hx hb dX8_hoistedArguments_61 (by decide) ?_
        simp only [Option.some.injEq, Prod.mk.injEq] at h
        obtain ⟨e0, e1, e2, e3, e4⟩ := h
        exact kRetI hx hb hr hlk e0 (by rw [← hw1, ← e1, ← e2, ← e3, ← e4]; exact hP) hS dX8_hoistedArguments_65
    · have h := ifp h c4
      refine lv_bipush (v := (-2)) hx hb dX8_hoistedArguments_26 (by decide) ?_
      simp only [Option.some.injEq, Prod.mk.injEq] at h
      obtain ⟨e0, e1, e2, e3, e4⟩ := h
      exact kRetI hx hb hr hlk e0 (by rw [← hw1, ← e1, ← e2, ← e3, ← e4]; exact hP) hS dX8_hoistedArguments_28
  · have h := ifp h c3
    refine lv_iconst (v := (-1)) hx hb dX8_hoistedArguments_14 (by decide) ?_
    simp only [Option.some.injEq, Prod.mk.injEq] at h
    obtain ⟨e0, e1, e2, e3, e4⟩ := h
    exact kRetI hx hb hr hlk e0 (by rw [← hw1, ← e1, ← e2, ← e3, ← e4]; exact hP) hS dX8_hoistedArguments_15
set_option maxHeartbeats 8000000 in
set_option maxRecDepth 100000 in
theorem qX8_bridgeTypes (l : Launch) (D : va_G) (cI cM : ClassId) (a_x a_x_hoistedOfCall a_o a_t a_t_supertypes a_m a_m_type a_m_name a_m_arity a_m_keys a_m_defaults a_k a_k_staticType a_k_dynamicType a_k_target a_k_argumentCounts a_k_temporaryCounts a_k_keys a_k_kinds a_k_values a_k_temporaryKinds a_k_newKinds a_k_newValues a_d a_d_sources a_d_keys a_d_defaults a_h a_h_saved a_e a_e_temporaries a_e_arguments a_g a_g_kinds a_g_positions : Nat) (a_h_ad : Nat → Nat → Nat) (x_hoistedOfCall : Nat → Int32) (t_count : Int32) (t_interfaceSet : Int32) (t_supertypes : Nat → Int32) (m_count : Int32) (m_type : Nat → Int32) (m_name : Nat → Int32) (m_arity : Nat → Int32) (m_keys : Nat → Int32) (m_defaults : Nat → Int32) (k_count : Int32) (k_frozenSet : Int32) (k_staticType : Nat → Int32) (k_dynamicType : Nat → Int32) (k_target : Nat → Int32) (k_argumentCounts : Nat → Int32) (k_temporaryCounts : Nat → Int32) (k_keys : Nat → Int32) (k_kinds : Nat → Int32) (k_values : Nat → Int32) (k_temporaryKinds : Nat → Int32) (k_newKinds : Nat → Int32) (k_newValues : Nat → Int32) (d_open : Int32) (d_method : Int32) (d_family : Int32) (d_oldCount : Int32) (d_keptSet : Int32) (d_count : Int32) (d_sources : Nat → Int32) (d_keys : Nat → Int32) (d_defaults : Nat → Int32) (d_usedKeys : Int32) (h_count : Int32) (h_next : Int32) (e_counter : Int32) (e_temporaries : Nat → Int32) (e_arguments : Nat → Int32) (g_count : Int32) (g_kept : Int32) (g_kinds : Nat → Int32) (g_positions : Nat → Int32) (r : Int32) (h : fX8_bridgeTypes t_supertypes m_count m_type k_count k_frozenSet k_staticType k_target d_open d_family = some r) : PM l yX8_bridgeTypes wsX8_bridgeTypes rmX8_bridgeTypes D cI cM [.ref a_x] (W_x_o_t_m_k_d_h_e_g cI cM a_x a_x_hoistedOfCall a_o a_t a_t_supertypes a_m a_m_type a_m_name a_m_arity a_m_keys a_m_defaults a_k a_k_staticType a_k_dynamicType a_k_target a_k_argumentCounts a_k_temporaryCounts a_k_keys a_k_kinds a_k_values a_k_temporaryKinds a_k_newKinds a_k_newValues a_d a_d_sources a_d_keys a_d_defaults a_h a_h_saved a_e a_e_temporaries a_e_arguments a_g a_g_kinds a_g_positions a_h_ad x_hoistedOfCall t_count t_interfaceSet t_supertypes m_count m_type m_name m_arity m_keys m_defaults k_count k_frozenSet k_staticType k_dynamicType k_target k_argumentCounts k_temporaryCounts k_keys k_kinds k_values k_temporaryKinds k_newKinds k_newValues d_open d_method d_family d_oldCount d_keptSet d_count d_sources d_keys d_defaults d_usedKeys h_count h_next e_counter e_temporaries e_arguments g_count g_kept g_kinds g_positions) r := by
  refine PM.of (cc := cX8_bridgeTypes) (maxL := 1) (ret := (some .int)) (by decide) rfl (Nat.le_of_ble_eq_true rfl) ?_
  intro p e s m below meth c ls hx hb hr hml hown hts hlk hP hKK hl
  have hown : s.vm.findClass RX8 = some m.cls := hown
  have hl : lv_has ls 1 [(0, .ref a_x)] := hl
  generalize hav : ([.ref a_x] : List Value) = av at hts ⊢
  have SS : CallFix p m c cX8_bridgeTypes 1 s av.toArray wsX8_bridgeTypes RX8 := ⟨hx, hb, hml, hown, hts⟩
  have hinX1 : ∀ w ∈ u_ws RX1 TX1 10, w ∈ wsX8_bridgeTypes := by decide +kernel
  have hinX8 : ∀ w ∈ u_ws RX8 TX8 6, w ∈ wsX8_bridgeTypes := by decide +kernel
  have lk10 := hts (.fieldLink RX8 10 "SignatureChanger" "model" "LSignatureChanger$Model;") (List.mem_of_getElem? (i := 3) rfl)
  have lk19 := hts (.fieldLink RX8 19 "SignatureChanger" "draft" "LSignatureChanger$Draft;") (List.mem_of_getElem? (i := 1) rfl)
  have lk197 := hts (.fieldLink RX8 197 "SignatureChanger$Draft" "open" "Z") (List.mem_of_getElem? (i := 2) rfl)
  have lk233 := hts (.fieldLink RX8 233 "SignatureChanger$Draft" "family" "I") (List.mem_of_getElem? (i := 4) rfl)
  have cw236 : CallW rmX8_bridgeTypes s av.toArray RX8 RX6 236 yX6_bridgesFor cX6_bridgesFor 8 (some .int) wsX6_bridgesFor rmX6_bridgesFor 0 0 1 := cwV 1 hts gX8_bridgeTypes_X6_bridgesFor rfl rfl rfl (by decide +kernel) ⟨Nat.le_of_ble_eq_true rfl, Nat.le_of_ble_eq_true rfl⟩
  unfold fX8_bridgeTypes at h
  refine lv_aload_n hx hb dX8_bridgeTypes_0 rfl (lv_at hl 0 rfl) ?_
  refine va_get (D := D) (ci := 8) (v := .ref a_d) (C := RX8) (T := TX8) (N := 6) hx hb hts hinX8 hown hKK.1 hP 0 rfl rfl 1 (by decide) lk19 (fun _ h9 => h9) rfl dX8_bridgeTypes_1 ?_
  refine va_get (D := D) (ci := 1) (v := .int d_open) (C := RX1) (T := TX1) (N := 10) hx hb hts hinX1 hown hKK.1 hP 23 rfl rfl 0 (by decide) lk197 (fun _ h9 => h9) rfl dX8_bridgeTypes_4 ?_
  refine lv_if_eq (tgt := 27) hx hb dX8_bridgeTypes_7 (by decide) (fun c1 => ?_) (fun c1 => ?_)
  · have h := ifp h c1
    refine lv_bipush (v := (-2)) hx hb dX8_bridgeTypes_27 (by decide) ?_
    exact kRet hx hb hr hlk (Option.some.inj h) dX8_bridgeTypes_29
  · have h := ifn h c1
    refine lv_aload_n hx hb dX8_bridgeTypes_10 rfl (lv_at hl 0 rfl) ?_
    refine va_get (D := D) (ci := 8) (v := .ref a_o) (C := RX8) (T := TX8) (N := 6) hx hb hts hinX8 hown hKK.1 hP 0 rfl rfl 0 (by decide) lk10 (fun _ h9 => h9) rfl dX8_bridgeTypes_11 ?_
    refine lv_aload_n hx hb dX8_bridgeTypes_14 rfl (lv_at hl 0 rfl) ?_
    refine va_get (D := D) (ci := 8) (v := .ref a_d) (C := RX8) (T := TX8) (N := 6) hx hb hts hinX8 hown hKK.1 hP 0 rfl rfl 1 (by decide) lk19 (fun _ h9 => h9) rfl dX8_bridgeTypes_15 ?_
    refine va_get (D := D) (ci := 1) (v := .int d_family) (C := RX1) (T := TX1) (N := 10) hx hb hts hinX1 hown hKK.1 hP 23 rfl rfl 2 (by decide) lk233 (fun _ h9 => h9) rfl dX8_bridgeTypes_18 ?_
    obtain ⟨v2, ev2, h⟩ := bn_some h
    have hs3 : va_P D vwCl (W_o_t_m_k cI cM a_o a_t a_t_supertypes a_m a_m_type a_m_name a_m_arity a_m_keys a_m_defaults a_k a_k_staticType a_k_dynamicType a_k_target a_k_argumentCounts a_k_temporaryCounts a_k_keys a_k_kinds a_k_values a_k_temporaryKinds a_k_newKinds a_k_newValues t_count t_interfaceSet t_supertypes m_count m_type m_name m_arity m_keys m_defaults k_count k_frozenSet k_staticType k_dynamicType k_target k_argumentCounts k_temporaryCounts k_keys k_kinds k_values k_temporaryKinds k_newKinds k_newValues) _ := blkP (Bs := [B_x cI cM a_x a_x_hoistedOfCall a_o a_d a_h a_e a_g x_hoistedOfCall, B_o cI cM a_o a_t a_m a_k , B_t cI cM a_t a_t_supertypes t_count t_interfaceSet t_supertypes, B_m cI cM a_m a_m_type a_m_name a_m_arity a_m_keys a_m_defaults m_count m_type m_name m_arity m_keys m_defaults, B_k cI cM a_k a_k_staticType a_k_dynamicType a_k_target a_k_argumentCounts a_k_temporaryCounts a_k_keys a_k_kinds a_k_values a_k_temporaryKinds a_k_newKinds a_k_newValues k_count k_frozenSet k_staticType k_dynamicType k_target k_argumentCounts k_temporaryCounts k_keys k_kinds k_values k_temporaryKinds k_newKinds k_newValues, B_d cI cM a_d a_d_sources a_d_keys a_d_defaults d_open d_method d_family d_oldCount d_keptSet d_count d_sources d_keys d_defaults d_usedKeys, B_h cI cM a_h a_h_saved a_h_ad h_count h_next, B_e cI cM a_e a_e_temporaries a_e_arguments e_counter e_temporaries e_arguments, B_g cI cM a_g a_g_kinds a_g_positions g_count g_kept g_kinds g_positions]) hP [1, 2, 3, 4] (C0 := [B_o cI cM a_o a_t a_m a_k , B_t cI cM a_t a_t_supertypes t_count t_interfaceSet t_supertypes, B_m cI cM a_m a_m_type a_m_name a_m_arity a_m_keys a_m_defaults m_count m_type m_name m_arity m_keys m_defaults, B_k cI cM a_k a_k_staticType a_k_dynamicType a_k_target a_k_argumentCounts a_k_temporaryCounts a_k_keys a_k_kinds a_k_values a_k_temporaryKinds a_k_newKinds a_k_newValues k_count k_frozenSet k_staticType k_dynamicType k_target k_argumentCounts k_temporaryCounts k_keys k_kinds k_values k_temporaryKinds k_newKinds k_newValues]) rfl rfl
    refine kV (As := [.int d_family]) (rest := []) SS hKK (qX6_bridgesFor l D cI cM a_o a_t a_t_supertypes a_m a_m_type a_m_name a_m_arity a_m_keys a_m_defaults a_k a_k_staticType a_k_dynamicType a_k_target a_k_argumentCounts a_k_temporaryCounts a_k_keys a_k_kinds a_k_values a_k_temporaryKinds a_k_newKinds a_k_newValues t_count t_interfaceSet t_supertypes m_count m_type m_name m_arity m_keys m_defaults k_count k_frozenSet k_staticType k_dynamicType k_target k_argumentCounts k_temporaryCounts k_keys k_kinds k_values k_temporaryKinds k_newKinds k_newValues d_family v2 ev2) cw236 hs3 0 6 rfl rfl rfl hl.1 rfl (Nat.le_of_ble_eq_true rfl) dX8_bridgeTypes_21 ⟨Nat.zero_le _, Nat.zero_le _⟩ ?_
    refine lv_goto (tgt := 29) hx hb dX8_bridgeTypes_24 (by decide) ?_
    exact kRet hx hb hr hlk (Option.some.inj h) dX8_bridgeTypes_29
set_option maxHeartbeats 8000000 in
set_option maxRecDepth 100000 in
theorem qX8_breaksFrozenCall (l : Launch) (D : va_G) (cI cM : ClassId) (a_x a_x_hoistedOfCall a_o a_t a_t_supertypes a_m a_m_type a_m_name a_m_arity a_m_keys a_m_defaults a_k a_k_staticType a_k_dynamicType a_k_target a_k_argumentCounts a_k_temporaryCounts a_k_keys a_k_kinds a_k_values a_k_temporaryKinds a_k_newKinds a_k_newValues a_d a_d_sources a_d_keys a_d_defaults a_h a_h_saved a_e a_e_temporaries a_e_arguments a_g a_g_kinds a_g_positions : Nat) (a_h_ad : Nat → Nat → Nat) (x_hoistedOfCall : Nat → Int32) (t_count : Int32) (t_interfaceSet : Int32) (t_supertypes : Nat → Int32) (m_count : Int32) (m_type : Nat → Int32) (m_name : Nat → Int32) (m_arity : Nat → Int32) (m_keys : Nat → Int32) (m_defaults : Nat → Int32) (k_count : Int32) (k_frozenSet : Int32) (k_staticType : Nat → Int32) (k_dynamicType : Nat → Int32) (k_target : Nat → Int32) (k_argumentCounts : Nat → Int32) (k_temporaryCounts : Nat → Int32) (k_keys : Nat → Int32) (k_kinds : Nat → Int32) (k_values : Nat → Int32) (k_temporaryKinds : Nat → Int32) (k_newKinds : Nat → Int32) (k_newValues : Nat → Int32) (d_open : Int32) (d_method : Int32) (d_family : Int32) (d_oldCount : Int32) (d_keptSet : Int32) (d_count : Int32) (d_sources : Nat → Int32) (d_keys : Nat → Int32) (d_defaults : Nat → Int32) (d_usedKeys : Int32) (h_count : Int32) (h_next : Int32) (e_counter : Int32) (e_temporaries : Nat → Int32) (e_arguments : Nat → Int32) (g_count : Int32) (g_kept : Int32) (g_kinds : Nat → Int32) (g_positions : Nat → Int32) (r : Int32) (h : fX8_breaksFrozenCall k_count k_frozenSet k_target d_family d_oldCount d_count d_sources = some r) : PM l yX8_breaksFrozenCall wsX8_breaksFrozenCall rmX8_breaksFrozenCall D cI cM [.ref a_x] (W_x_o_t_m_k_d_h_e_g cI cM a_x a_x_hoistedOfCall a_o a_t a_t_supertypes a_m a_m_type a_m_name a_m_arity a_m_keys a_m_defaults a_k a_k_staticType a_k_dynamicType a_k_target a_k_argumentCounts a_k_temporaryCounts a_k_keys a_k_kinds a_k_values a_k_temporaryKinds a_k_newKinds a_k_newValues a_d a_d_sources a_d_keys a_d_defaults a_h a_h_saved a_e a_e_temporaries a_e_arguments a_g a_g_kinds a_g_positions a_h_ad x_hoistedOfCall t_count t_interfaceSet t_supertypes m_count m_type m_name m_arity m_keys m_defaults k_count k_frozenSet k_staticType k_dynamicType k_target k_argumentCounts k_temporaryCounts k_keys k_kinds k_values k_temporaryKinds k_newKinds k_newValues d_open d_method d_family d_oldCount d_keptSet d_count d_sources d_keys d_defaults d_usedKeys h_count h_next e_counter e_temporaries e_arguments g_count g_kept g_kinds g_positions) r := by
  refine PM.of (cc := cX8_breaksFrozenCall) (maxL := 2) (ret := (some .boolean)) (by decide) rfl (Nat.le_of_ble_eq_true rfl) ?_
  intro p e s m below meth c ls hx hb hr hml hown hts hlk hP hKK hl
  have hown : s.vm.findClass RX8 = some m.cls := hown
  have hl : lv_has ls 2 [(0, .ref a_x)] := hl
  generalize hav : ([.ref a_x] : List Value) = av at hts ⊢
  have SS : CallFix p m c cX8_breaksFrozenCall 2 s av.toArray wsX8_breaksFrozenCall RX8 := ⟨hx, hb, hml, hown, hts⟩
  have hinX0 : ∀ w ∈ u_ws RX0 TX0 13, w ∈ wsX8_breaksFrozenCall := by decide +kernel
  have hinX1 : ∀ w ∈ u_ws RX1 TX1 10, w ∈ wsX8_breaksFrozenCall := by decide +kernel
  have hinX6 : ∀ w ∈ u_ws RX6 TX6 3, w ∈ wsX8_breaksFrozenCall := by decide +kernel
  have hinX8 : ∀ w ∈ u_ws RX8 TX8 6, w ∈ wsX8_breaksFrozenCall := by decide +kernel
  have lk10 := hts (.fieldLink RX8 10 "SignatureChanger" "model" "LSignatureChanger$Model;") (List.mem_of_getElem? (i := 1) rfl)
  have lk19 := hts (.fieldLink RX8 19 "SignatureChanger" "draft" "LSignatureChanger$Draft;") (List.mem_of_getElem? (i := 3) rfl)
  have lk124 := hts (.fieldLink RX8 124 "SignatureChanger$Model" "calls" "LSignatureChanger$Calls;") (List.mem_of_getElem? (i := 2) rfl)
  have lk155 := hts (.fieldLink RX8 155 "SignatureChanger$Calls" "frozenSet" "I") (List.mem_of_getElem? (i := 5) rfl)
  have lk201 := hts (.fieldLink RX8 201 "SignatureChanger$Draft" "oldCount" "I") (List.mem_of_getElem? (i := 7) rfl)
  have lk210 := hts (.fieldLink RX8 210 "SignatureChanger$Draft" "count" "I") (List.mem_of_getElem? (i := 6) rfl)
  have lk233 := hts (.fieldLink RX8 233 "SignatureChanger$Draft" "family" "I") (List.mem_of_getElem? (i := 4) rfl)
  have cw266 : CallW rmX8_breaksFrozenCall s av.toArray RX8 RX0 266 yX0_withTargetIn cX0_withTargetIn 4 (some .int) wsX0_withTargetIn rmX0_withTargetIn 0 0 1 := cwV 1 hts gX8_breaksFrozenCall_X0_withTargetIn rfl rfl rfl (by decide +kernel) ⟨Nat.le_of_ble_eq_true rfl, Nat.le_of_ble_eq_true rfl⟩
  have cw269 : CallW rmX8_breaksFrozenCall s av.toArray RX8 RX1 269 yX1_keepsWholeList cX1_keepsWholeList 2 (some .boolean) wsX1_keepsWholeList rmX1_keepsWholeList 0 0 0 := cwV 0 hts gX8_breaksFrozenCall_X1_keepsWholeList rfl rfl rfl (by decide +kernel) ⟨Nat.le_of_ble_eq_true rfl, Nat.le_of_ble_eq_true rfl⟩
  have F36 : ∀ (s0 : Int32), jX8_breaksFrozenCall_36 k_count k_frozenSet k_target d_family d_oldCount d_count d_sources s0 = some r → ∀ ls : Array Slot, lv_has ls 2 [(0, .ref a_x)] → WP p l e rmX8_breaksFrozenCall s m av below meth c r 36 ls [.int s0] := by
    intro s0 h ls hl
    unfold jX8_breaksFrozenCall_36 at h
    refine lv_istore_n (lv' := [(1, .int s0), (0, .ref a_x)]) hx hb dX8_breaksFrozenCall_36 rfl hl (by decide) rfl (fun ls hl => ?_)
    refine lv_iload_n hx hb dX8_breaksFrozenCall_37 rfl (lv_at hl 0 rfl) ?_
    refine lv_if_eq (tgt := 72) hx hb dX8_breaksFrozenCall_38 (by decide) (fun c1 => ?_) (fun c1 => ?_)
    · have h := ifp h c1
      refine lv_iconst (v := 0) hx hb dX8_breaksFrozenCall_72 (by decide) ?_
      exact kRetZ hx hb hr hlk rfl (Option.some.inj h) dX8_breaksFrozenCall_73
    · have h := ifn h c1
      refine lv_aload_n hx hb dX8_breaksFrozenCall_41 rfl (lv_at hl 1 rfl) ?_
      refine va_get (D := D) (ci := 8) (v := .ref a_d) (C := RX8) (T := TX8) (N := 6) hx hb hts hinX8 hown hKK.1 hP 0 rfl rfl 1 (by decide) lk19 (fun _ h9 => h9) rfl dX8_breaksFrozenCall_42 ?_
      refine va_get (D := D) (ci := 1) (v := .int d_count) (C := RX1) (T := TX1) (N := 10) hx hb hts hinX1 hown hKK.1 hP 23 rfl rfl 5 (by decide) lk210 (fun _ h9 => h9) rfl dX8_breaksFrozenCall_45 ?_
      refine lv_aload_n hx hb dX8_breaksFrozenCall_48 rfl (lv_at hl 1 rfl) ?_
      refine va_get (D := D) (ci := 8) (v := .ref a_d) (C := RX8) (T := TX8) (N := 6) hx hb hts hinX8 hown hKK.1 hP 0 rfl rfl 1 (by decide) lk19 (fun _ h9 => h9) rfl dX8_breaksFrozenCall_49 ?_
      refine va_get (D := D) (ci := 1) (v := .int d_oldCount) (C := RX1) (T := TX1) (N := 10) hx hb hts hinX1 hown hKK.1 hP 23 rfl rfl 3 (by decide) lk201 (fun _ h9 => h9) rfl dX8_breaksFrozenCall_52 ?_
      refine lv_icmp_ne (tgt := 72) hx hb dX8_breaksFrozenCall_55 (by decide) (fun c2 => ?_) (fun c2 => ?_)
      · have h := ifn h c2
        refine lv_iconst (v := 0) hx hb dX8_breaksFrozenCall_72 (by decide) ?_
        exact kRetZ hx hb hr hlk rfl (Option.some.inj h) dX8_breaksFrozenCall_73
      · have h := ifp h c2
        refine lv_aload_n hx hb dX8_breaksFrozenCall_58 rfl (lv_at hl 1 rfl) ?_
        refine va_get (D := D) (ci := 8) (v := .ref a_d) (C := RX8) (T := TX8) (N := 6) hx hb hts hinX8 hown hKK.1 hP 0 rfl rfl 1 (by decide) lk19 (fun _ h9 => h9) rfl dX8_breaksFrozenCall_59 ?_
        obtain ⟨v3, ev3, h⟩ := bn_some h
        have hs4 : va_P D vwCl (W_d cI cM a_d a_d_sources a_d_keys a_d_defaults d_open d_method d_family d_oldCount d_keptSet d_count d_sources d_keys d_defaults d_usedKeys) _ := blkP (Bs := [B_x cI cM a_x a_x_hoistedOfCall a_o a_d a_h a_e a_g x_hoistedOfCall, B_o cI cM a_o a_t a_m a_k , B_t cI cM a_t a_t_supertypes t_count t_interfaceSet t_supertypes, B_m cI cM a_m a_m_type a_m_name a_m_arity a_m_keys a_m_defaults m_count m_type m_name m_arity m_keys m_defaults, B_k cI cM a_k a_k_staticType a_k_dynamicType a_k_target a_k_argumentCounts a_k_temporaryCounts a_k_keys a_k_kinds a_k_values a_k_temporaryKinds a_k_newKinds a_k_newValues k_count k_frozenSet k_staticType k_dynamicType k_target k_argumentCounts k_temporaryCounts k_keys k_kinds k_values k_temporaryKinds k_newKinds k_newValues, B_d cI cM a_d a_d_sources a_d_keys a_d_defaults d_open d_method d_family d_oldCount d_keptSet d_count d_sources d_keys d_defaults d_usedKeys, B_h cI cM a_h a_h_saved a_h_ad h_count h_next, B_e cI cM a_e a_e_temporaries a_e_arguments e_counter e_temporaries e_arguments, B_g cI cM a_g a_g_kinds a_g_positions g_count g_kept g_kinds g_positions]) hP [5] (C0 := [B_d cI cM a_d a_d_sources a_d_keys a_d_defaults d_open d_method d_family d_oldCount d_keptSet d_count d_sources d_keys d_defaults d_usedKeys]) rfl rfl
        refine kV (As := []) (rest := []) SS hKK (qX1_keepsWholeList l D cI cM a_d a_d_sources a_d_keys a_d_defaults d_open d_method d_family d_oldCount d_keptSet d_count d_sources d_keys d_defaults d_usedKeys v3 ev3) cw269 hs4 0 1 rfl rfl rfl hl.1 rfl (Nat.le_of_ble_eq_true rfl) dX8_breaksFrozenCall_62 ⟨Nat.zero_le _, Nat.zero_le _⟩ ?_
        refine lv_if_ne (tgt := 72) hx hb dX8_breaksFrozenCall_65 (by decide) (fun c5 => ?_) (fun c5 => ?_)
        · have h := ifn h c5
          refine lv_iconst (v := 0) hx hb dX8_breaksFrozenCall_72 (by decide) ?_
          exact kRetZ hx hb hr hlk rfl (Option.some.inj h) dX8_breaksFrozenCall_73
        · have h := ifp h c5
          refine lv_iconst (v := 1) hx hb dX8_breaksFrozenCall_68 (by decide) ?_
          refine lv_goto (tgt := 73) hx hb dX8_breaksFrozenCall_69 (by decide) ?_
          exact kRetZ hx hb hr hlk rfl (Option.some.inj h) dX8_breaksFrozenCall_73
  unfold fX8_breaksFrozenCall at h
  refine lv_aload_n hx hb dX8_breaksFrozenCall_0 rfl (lv_at hl 0 rfl) ?_
  refine va_get (D := D) (ci := 8) (v := .ref a_o) (C := RX8) (T := TX8) (N := 6) hx hb hts hinX8 hown hKK.1 hP 0 rfl rfl 0 (by decide) lk10 (fun _ h9 => h9) rfl dX8_breaksFrozenCall_1 ?_
  refine va_get (D := D) (ci := 6) (v := .ref a_k) (C := RX6) (T := TX6) (N := 3) hx hb hts hinX6 hown hKK.1 hP 2 rfl rfl 2 (by decide) lk124 (fun _ h9 => h9) rfl dX8_breaksFrozenCall_4 ?_
  refine lv_aload_n hx hb dX8_breaksFrozenCall_7 rfl (lv_at hl 0 rfl) ?_
  refine va_get (D := D) (ci := 8) (v := .ref a_d) (C := RX8) (T := TX8) (N := 6) hx hb hts hinX8 hown hKK.1 hP 0 rfl rfl 1 (by decide) lk19 (fun _ h9 => h9) rfl dX8_breaksFrozenCall_8 ?_
  refine va_get (D := D) (ci := 1) (v := .int d_family) (C := RX1) (T := TX1) (N := 10) hx hb hts hinX1 hown hKK.1 hP 23 rfl rfl 2 (by decide) lk233 (fun _ h9 => h9) rfl dX8_breaksFrozenCall_11 ?_
  obtain ⟨v1, ev1, h⟩ := bn_some h
  have hs2 : va_P D vwCl (W_k cI cM a_k a_k_staticType a_k_dynamicType a_k_target a_k_argumentCounts a_k_temporaryCounts a_k_keys a_k_kinds a_k_values a_k_temporaryKinds a_k_newKinds a_k_newValues k_count k_frozenSet k_staticType k_dynamicType k_target k_argumentCounts k_temporaryCounts k_keys k_kinds k_values k_temporaryKinds k_newKinds k_newValues) _ := blkP (Bs := [B_x cI cM a_x a_x_hoistedOfCall a_o a_d a_h a_e a_g x_hoistedOfCall, B_o cI cM a_o a_t a_m a_k , B_t cI cM a_t a_t_supertypes t_count t_interfaceSet t_supertypes, B_m cI cM a_m a_m_type a_m_name a_m_arity a_m_keys a_m_defaults m_count m_type m_name m_arity m_keys m_defaults, B_k cI cM a_k a_k_staticType a_k_dynamicType a_k_target a_k_argumentCounts a_k_temporaryCounts a_k_keys a_k_kinds a_k_values a_k_temporaryKinds a_k_newKinds a_k_newValues k_count k_frozenSet k_staticType k_dynamicType k_target k_argumentCounts k_temporaryCounts k_keys k_kinds k_values k_temporaryKinds k_newKinds k_newValues, B_d cI cM a_d a_d_sources a_d_keys a_d_defaults d_open d_method d_family d_oldCount d_keptSet d_count d_sources d_keys d_defaults d_usedKeys, B_h cI cM a_h a_h_saved a_h_ad h_count h_next, B_e cI cM a_e a_e_temporaries a_e_arguments e_counter e_temporaries e_arguments, B_g cI cM a_g a_g_kinds a_g_positions g_count g_kept g_kinds g_positions]) hP [4] (C0 := [B_k cI cM a_k a_k_staticType a_k_dynamicType a_k_target a_k_argumentCounts a_k_temporaryCounts a_k_keys a_k_kinds a_k_values a_k_temporaryKinds a_k_newKinds a_k_newValues k_count k_frozenSet k_staticType k_dynamicType k_target k_argumentCounts k_temporaryCounts k_keys k_kinds k_values k_temporaryKinds k_newKinds k_newValues]) rfl rfl
  refine kV (As := [.int d_family]) (rest := []) SS hKK (qX0_withTargetIn l D cI cM a_k a_k_staticType a_k_dynamicType a_k_target a_k_argumentCounts a_k_temporaryCounts a_k_keys a_k_kinds a_k_values a_k_temporaryKinds a_k_newKinds a_k_newValues k_count k_frozenSet k_staticType k_dynamicType k_target k_argumentCounts k_temporaryCounts k_keys k_kinds k_values k_temporaryKinds k_newKinds k_newValues d_family v1 ev1) cw266 hs2 0 0 rfl rfl rfl hl.1 rfl (Nat.le_of_ble_eq_true rfl) dX8_breaksFrozenCall_14 ⟨Nat.zero_le _, Nat.zero_le _⟩ ?_
  refine lv_aload_n hx hb dX8_breaksFrozenCall_17 rfl (lv_at hl 0 rfl) ?_
  refine va_get (D := D) (ci := 8) (v := .ref a_o) (C := RX8) (T := TX8) (N := 6) hx hb hts hinX8 hown hKK.1 hP 0 rfl rfl 0 (by decide) lk10 (fun _ h9 => h9) rfl dX8_breaksFrozenCall_18 ?_
  refine va_get (D := D) (ci := 6) (v := .ref a_k) (C := RX6) (T := TX6) (N := 3) hx hb hts hinX6 hown hKK.1 hP 2 rfl rfl 2 (by decide) lk124 (fun _ h9 => h9) rfl dX8_breaksFrozenCall_21 ?_
  refine va_get (D := D) (ci := 0) (v := .int k_frozenSet) (C := RX0) (T := TX0) (N := 13) hx hb hts hinX0 hown hKK.1 hP 11 rfl rfl 1 (by decide) lk155 (fun _ h9 => h9) rfl dX8_breaksFrozenCall_24 ?_
  refine lv_iand hx hb dX8_breaksFrozenCall_27 ?_
  refine lv_if_eq (tgt := 35) hx hb dX8_breaksFrozenCall_28 (by decide) (fun c3 => ?_) (fun c3 => ?_)
  · have h := ifp h c3
    refine lv_iconst (v := 0) hx hb dX8_breaksFrozenCall_35 (by decide) ?_
    exact F36 0 h ls (lv_sub (l' := [(0, .ref a_x)]) hl [0] rfl)
  · have h := ifn h c3
    refine lv_iconst (v := 1) hx hb dX8_breaksFrozenCall_31 (by decide) ?_
    refine lv_goto (tgt := 36) hx hb dX8_breaksFrozenCall_32 (by decide) ?_
    exact F36 1 h ls (lv_sub (l' := [(0, .ref a_x)]) hl [0] rfl)
set_option maxHeartbeats 8000000 in
set_option maxRecDepth 100000 in
theorem qX8_chooseHoisted (l : Launch) (D : va_G) (cI cM : ClassId) (a_x a_x_hoistedOfCall a_o a_t a_t_supertypes a_m a_m_type a_m_name a_m_arity a_m_keys a_m_defaults a_k a_k_staticType a_k_dynamicType a_k_target a_k_argumentCounts a_k_temporaryCounts a_k_keys a_k_kinds a_k_values a_k_temporaryKinds a_k_newKinds a_k_newValues a_d a_d_sources a_d_keys a_d_defaults a_h a_h_saved a_e a_e_temporaries a_e_arguments a_g a_g_kinds a_g_positions : Nat) (a_h_ad : Nat → Nat → Nat) (x_hoistedOfCall : Nat → Int32) (t_count : Int32) (t_interfaceSet : Int32) (t_supertypes : Nat → Int32) (m_count : Int32) (m_type : Nat → Int32) (m_name : Nat → Int32) (m_arity : Nat → Int32) (m_keys : Nat → Int32) (m_defaults : Nat → Int32) (k_count : Int32) (k_frozenSet : Int32) (k_staticType : Nat → Int32) (k_dynamicType : Nat → Int32) (k_target : Nat → Int32) (k_argumentCounts : Nat → Int32) (k_temporaryCounts : Nat → Int32) (k_keys : Nat → Int32) (k_kinds : Nat → Int32) (k_values : Nat → Int32) (k_temporaryKinds : Nat → Int32) (k_newKinds : Nat → Int32) (k_newValues : Nat → Int32) (d_open : Int32) (d_method : Int32) (d_family : Int32) (d_oldCount : Int32) (d_keptSet : Int32) (d_count : Int32) (d_sources : Nat → Int32) (d_keys : Nat → Int32) (d_defaults : Nat → Int32) (d_usedKeys : Int32) (h_count : Int32) (h_next : Int32) (e_counter : Int32) (e_temporaries : Nat → Int32) (e_arguments : Nat → Int32) (g_count : Int32) (g_kept : Int32) (g_kinds : Nat → Int32) (g_positions : Nat → Int32) (x1 : Int32) (r : Int32) (r_x_hoistedOfCall : Nat → Int32) (r_g_count : Int32) (r_g_kept : Int32) (r_g_kinds : Nat → Int32) (r_g_positions : Nat → Int32) (h : fX8_chooseHoisted x_hoistedOfCall k_count k_argumentCounts k_temporaryCounts k_kinds d_keptSet d_count d_sources g_count g_kept g_kinds g_positions x1 = some (r, r_x_hoistedOfCall, r_g_count, r_g_kept, r_g_kinds, r_g_positions)) : IM l yX8_chooseHoisted wsX8_chooseHoisted rmX8_chooseHoisted D cI cM [.ref a_x, .int x1] (W_x_o_t_m_k_d_h_e_g cI cM a_x a_x_hoistedOfCall a_o a_t a_t_supertypes a_m a_m_type a_m_name a_m_arity a_m_keys a_m_defaults a_k a_k_staticType a_k_dynamicType a_k_target a_k_argumentCounts a_k_temporaryCounts a_k_keys a_k_kinds a_k_values a_k_temporaryKinds a_k_newKinds a_k_newValues a_d a_d_sources a_d_keys a_d_defaults a_h a_h_saved a_e a_e_temporaries a_e_arguments a_g a_g_kinds a_g_positions a_h_ad x_hoistedOfCall t_count t_interfaceSet t_supertypes m_count m_type m_name m_arity m_keys m_defaults k_count k_frozenSet k_staticType k_dynamicType k_target k_argumentCounts k_temporaryCounts k_keys k_kinds k_values k_temporaryKinds k_newKinds k_newValues d_open d_method d_family d_oldCount d_keptSet d_count d_sources d_keys d_defaults d_usedKeys h_count h_next e_counter e_temporaries e_arguments g_count g_kept g_kinds g_positions) (W_x_o_t_m_k_d_h_e_g cI cM a_x a_x_hoistedOfCall a_o a_t a_t_supertypes a_m a_m_type a_m_name a_m_arity a_m_keys a_m_defaults a_k a_k_staticType a_k_dynamicType a_k_target a_k_argumentCounts a_k_temporaryCounts a_k_keys a_k_kinds a_k_values a_k_temporaryKinds a_k_newKinds a_k_newValues a_d a_d_sources a_d_keys a_d_defaults a_h a_h_saved a_e a_e_temporaries a_e_arguments a_g a_g_kinds a_g_positions a_h_ad r_x_hoistedOfCall t_count t_interfaceSet t_supertypes m_count m_type m_name m_arity m_keys m_defaults k_count k_frozenSet k_staticType k_dynamicType k_target k_argumentCounts k_temporaryCounts k_keys k_kinds k_values k_temporaryKinds k_newKinds k_newValues d_open d_method d_family d_oldCount d_keptSet d_count d_sources d_keys d_defaults d_usedKeys h_count h_next e_counter e_temporaries e_arguments r_g_count r_g_kept r_g_kinds r_g_positions) (some (.int r)) := by
  refine IM.of (cc := cX8_chooseHoisted) (maxL := 5) (ret := (some .boolean)) (by decide) rfl (Nat.le_of_ble_eq_true rfl) ?_
  intro p e s m below meth c ls hx hb hr hml hown hts hlk hKK hP hD hS hl
  have hown : s.vm.findClass RX8 = some m.cls := hown
  have hl : lv_has ls 5 [(0, .ref a_x), (1, .int x1)] := hl
  generalize hav : ([.ref a_x, .int x1] : List Value) = av at hts ⊢
  generalize hw1 : W_x_o_t_m_k_d_h_e_g cI cM a_x a_x_hoistedOfCall a_o a_t a_t_supertypes a_m a_m_type a_m_name a_m_arity a_m_keys a_m_defaults a_k a_k_staticType a_k_dynamicType a_k_target a_k_argumentCounts a_k_temporaryCounts a_k_keys a_k_kinds a_k_values a_k_temporaryKinds a_k_newKinds a_k_newValues a_d a_d_sources a_d_keys a_d_defaults a_h a_h_saved a_e a_e_temporaries a_e_arguments a_g a_g_kinds a_g_positions a_h_ad r_x_hoistedOfCall t_count t_interfaceSet t_supertypes m_count m_type m_name m_arity m_keys m_defaults k_count k_frozenSet k_staticType k_dynamicType k_target k_argumentCounts k_temporaryCounts k_keys k_kinds k_values k_temporaryKinds k_newKinds k_newValues d_open d_method d_family d_oldCount d_keptSet d_count d_sources d_keys d_defaults d_usedKeys h_count h_next e_counter e_temporaries e_arguments r_g_count r_g_kept r_g_kinds r_g_positions = w1
  generalize hw0 : W_x_o_t_m_k_d_h_e_g cI cM a_x a_x_hoistedOfCall a_o a_t a_t_supertypes a_m a_m_type a_m_name a_m_arity a_m_keys a_m_defaults a_k a_k_staticType a_k_dynamicType a_k_target a_k_argumentCounts a_k_temporaryCounts a_k_keys a_k_kinds a_k_values a_k_temporaryKinds a_k_newKinds a_k_newValues a_d a_d_sources a_d_keys a_d_defaults a_h a_h_saved a_e a_e_temporaries a_e_arguments a_g a_g_kinds a_g_positions a_h_ad x_hoistedOfCall t_count t_interfaceSet t_supertypes m_count m_type m_name m_arity m_keys m_defaults k_count k_frozenSet k_staticType k_dynamicType k_target k_argumentCounts k_temporaryCounts k_keys k_kinds k_values k_temporaryKinds k_newKinds k_newValues d_open d_method d_family d_oldCount d_keptSet d_count d_sources d_keys d_defaults d_usedKeys h_count h_next e_counter e_temporaries e_arguments g_count g_kept g_kinds g_positions = w0 at hD hS ⊢
  have hP : va_P D vwCl (W_x_o_t_m_k_d_h_e_g cI cM a_x a_x_hoistedOfCall a_o a_t a_t_supertypes a_m a_m_type a_m_name a_m_arity a_m_keys a_m_defaults a_k a_k_staticType a_k_dynamicType a_k_target a_k_argumentCounts a_k_temporaryCounts a_k_keys a_k_kinds a_k_values a_k_temporaryKinds a_k_newKinds a_k_newValues a_d a_d_sources a_d_keys a_d_defaults a_h a_h_saved a_e a_e_temporaries a_e_arguments a_g a_g_kinds a_g_positions a_h_ad x_hoistedOfCall t_count t_interfaceSet t_supertypes m_count m_type m_name m_arity m_keys m_defaults k_count k_frozenSet k_staticType k_dynamicType k_target k_argumentCounts k_temporaryCounts k_keys k_kinds k_values k_temporaryKinds k_newKinds k_newValues d_open d_method d_family d_oldCount d_keptSet d_count d_sources d_keys d_defaults d_usedKeys h_count h_next e_counter e_temporaries e_arguments g_count g_kept g_kinds g_positions) s.heap := hP
  have hD : va_D (fun q => q ∈ w0.map (·.1)) (W_x_o_t_m_k_d_h_e_g cI cM a_x a_x_hoistedOfCall a_o a_t a_t_supertypes a_m a_m_type a_m_name a_m_arity a_m_keys a_m_defaults a_k a_k_staticType a_k_dynamicType a_k_target a_k_argumentCounts a_k_temporaryCounts a_k_keys a_k_kinds a_k_values a_k_temporaryKinds a_k_newKinds a_k_newValues a_d a_d_sources a_d_keys a_d_defaults a_h a_h_saved a_e a_e_temporaries a_e_arguments a_g a_g_kinds a_g_positions a_h_ad x_hoistedOfCall t_count t_interfaceSet t_supertypes m_count m_type m_name m_arity m_keys m_defaults k_count k_frozenSet k_staticType k_dynamicType k_target k_argumentCounts k_temporaryCounts k_keys k_kinds k_values k_temporaryKinds k_newKinds k_newValues d_open d_method d_family d_oldCount d_keptSet d_count d_sources d_keys d_defaults d_usedKeys h_count h_next e_counter e_temporaries e_arguments g_count g_kept g_kinds g_positions) := by rw [hw0]; exact hD
  have SS : CallFix p m c cX8_chooseHoisted 5 s av.toArray wsX8_chooseHoisted RX8 := ⟨hx, hb, hml, hown, hts⟩
  have hinX0 : ∀ w ∈ u_ws RX0 TX0 13, w ∈ wsX8_chooseHoisted := by decide +kernel
  have hinX6 : ∀ w ∈ u_ws RX6 TX6 3, w ∈ wsX8_chooseHoisted := by decide +kernel
  have hinX8 : ∀ w ∈ u_ws RX8 TX8 6, w ∈ wsX8_chooseHoisted := by decide +kernel
  have lk10 := hts (.fieldLink RX8 10 "SignatureChanger" "model" "LSignatureChanger$Model;") (List.mem_of_getElem? (i := 1) rfl)
  have lk19 := hts (.fieldLink RX8 19 "SignatureChanger" "draft" "LSignatureChanger$Draft;") (List.mem_of_getElem? (i := 5) rfl)
  have lk40 := hts (.fieldLink RX8 40 "SignatureChanger" "hoisting" "LSignatureChanger$Hoisting;") (List.mem_of_getElem? (i := 4) rfl)
  have lk44 := hts (.fieldLink RX8 44 "SignatureChanger" "hoistedOfCall" "[I") (List.mem_of_getElem? (i := 7) rfl)
  have lk124 := hts (.fieldLink RX8 124 "SignatureChanger$Model" "calls" "LSignatureChanger$Calls;") (List.mem_of_getElem? (i := 2) rfl)
  have lk128 := hts (.fieldLink RX8 128 "SignatureChanger$Calls" "count" "I") (List.mem_of_getElem? (i := 3) rfl)
  have lk190 := hts (.fieldLink RX8 190 "SignatureChanger$Calls" "temporaryCounts" "[I") (List.mem_of_getElem? (i := 6) rfl)
  have cw158 : CallB rmX8_chooseHoisted s av.toArray RX8 158 yJ6_bitCount_0f7a4 cJ6_bitCount_0f7a4 1 (some .int) wsJ6_bitCount_0f7a4 rmJ6_bitCount_0f7a4 0 0 1 ∧ (Cond.static yJ6_bitCount_0f7a4).before av.toArray s = true := va_cwS 1 hts gX8_chooseHoisted_J6_bitCount_0f7a4 rfl rfl rfl (by decide +kernel) ⟨Nat.le_of_ble_eq_true rfl, Nat.le_of_ble_eq_true rfl⟩
  have cw207 : CallB rmX8_chooseHoisted s av.toArray RX8 207 yX8_contains cX8_contains 2 (some .boolean) wsX8_contains rmX8_contains 0 0 2 ∧ (Cond.static yX8_contains).before av.toArray s = true := va_cwS 2 hts gX8_chooseHoisted_X8_contains rfl rfl rfl (by decide +kernel) ⟨Nat.le_of_ble_eq_true rfl, Nat.le_of_ble_eq_true rfl⟩
  have cw229 : CallW rmX8_chooseHoisted s av.toArray RX8 RX4 229 yX4_choose cX4_choose 10 (some .int) wsX4_choose rmX4_choose 0 0 3 := cwV 3 hts gX8_chooseHoisted_X4_choose rfl rfl rfl (by decide +kernel) ⟨Nat.le_of_ble_eq_true rfl, Nat.le_of_ble_eq_true rfl⟩
  have F10 : ∀ (n : Nat) (H : Heap) (locs : List Loc) (x_hoistedOfCall : Nat → Int32) (g_count : Int32) (g_kept : Int32) (g_kinds : Nat → Int32) (g_positions : Nat → Int32) (y1 : Int32) (y3 : Int32), lX8_chooseHoisted_10 k_count k_argumentCounts k_temporaryCounts k_kinds d_keptSet d_count d_sources n x_hoistedOfCall g_count g_kept g_kinds g_positions y1 y3 = some (r, r_x_hoistedOfCall, r_g_count, r_g_kept, r_g_kinds, r_g_positions) → va_P D vwCl (W_x_o_t_m_k_d_h_e_g cI cM a_x a_x_hoistedOfCall a_o a_t a_t_supertypes a_m a_m_type a_m_name a_m_arity a_m_keys a_m_defaults a_k a_k_staticType a_k_dynamicType a_k_target a_k_argumentCounts a_k_temporaryCounts a_k_keys a_k_kinds a_k_values a_k_temporaryKinds a_k_newKinds a_k_newValues a_d a_d_sources a_d_keys a_d_defaults a_h a_h_saved a_e a_e_temporaries a_e_arguments a_g a_g_kinds a_g_positions a_h_ad x_hoistedOfCall t_count t_interfaceSet t_supertypes m_count m_type m_name m_arity m_keys m_defaults k_count k_frozenSet k_staticType k_dynamicType k_target k_argumentCounts k_temporaryCounts k_keys k_kinds k_values k_temporaryKinds k_newKinds k_newValues d_open d_method d_family d_oldCount d_keptSet d_count d_sources d_keys d_defaults d_usedKeys h_count h_next e_counter e_temporaries e_arguments g_count g_kept g_kinds g_positions) H → va_D (fun q => q ∈ (w0).map (·.1)) (W_x_o_t_m_k_d_h_e_g cI cM a_x a_x_hoistedOfCall a_o a_t a_t_supertypes a_m a_m_type a_m_name a_m_arity a_m_keys a_m_defaults a_k a_k_staticType a_k_dynamicType a_k_target a_k_argumentCounts a_k_temporaryCounts a_k_keys a_k_kinds a_k_values a_k_temporaryKinds a_k_newKinds a_k_newValues a_d a_d_sources a_d_keys a_d_defaults a_h a_h_saved a_e a_e_temporaries a_e_arguments a_g a_g_kinds a_g_positions a_h_ad x_hoistedOfCall t_count t_interfaceSet t_supertypes m_count m_type m_name m_arity m_keys m_defaults k_count k_frozenSet k_staticType k_dynamicType k_target k_argumentCounts k_temporaryCounts k_keys k_kinds k_values k_temporaryKinds k_newKinds k_newValues d_open d_method d_family d_oldCount d_keptSet d_count d_sources d_keys d_defaults d_usedKeys h_count h_next e_counter e_temporaries e_arguments g_count g_kept g_kinds g_positions) → va_S (fun q => q ∈ (w0).map (·.1)) s.heap H locs → ∀ ls : Array Slot, lv_has ls 5 [(0, .ref a_x), (1, .int y1), (2, .ref a_k), (3, .int y3)] → WI p l e rmX8_chooseHoisted s m av below meth c D w0 w1 (some (.int r)) H locs 10 ls [] := by
    intro n
    induction n with
    | zero => intro H locs x_hoistedOfCall g_count g_kept g_kinds g_positions y1 y3 h; exact no_some h
    | succ n ih =>
      intro H locs x_hoistedOfCall g_count g_kept g_kinds g_positions y1 y3 h hP hD hS ls hl
      rw [lX8_chooseHoisted_10_s] at h
      refine lv_iload_n hx hb dX8_chooseHoisted_10 rfl (lv_at hl 3 rfl) ?_
      refine lv_aload_n hx hb dX8_chooseHoisted_11 rfl (lv_at hl 2 rfl) ?_
      refine va_get (D := D) (ci := 0) (v := .int k_count) (C := RX0) (T := TX0) (N := 13) hx hb hts hinX0 hown hKK.1 hP 11 rfl rfl 0 (by decide) lk128 (fun _ h9 => h9) rfl dX8_chooseHoisted_12 ?_
      refine lv_icmp_ge (tgt := 74) hx hb dX8_chooseHoisted_15 (by decide) (fun c1 => ?_) (fun c1 => ?_)
      · have h := ifp h c1
        refine lv_iconst (v := 1) hx hb dX8_chooseHoisted_74 (by decide) ?_
        simp only [Option.some.injEq, Prod.mk.injEq] at h
        obtain ⟨e0, e1, e2, e3, e4, e5⟩ := h
        exact kRetZI hx hb hr hlk rfl e0 (by rw [← hw1, ← e1, ← e2, ← e3, ← e4, ← e5]; exact hP) hS dX8_chooseHoisted_75
      · have h := ifn h c1
        refine lv_iload_n hx hb dX8_chooseHoisted_18 rfl (lv_at hl 1 rfl) ?_
        refine lv_iload_n hx hb dX8_chooseHoisted_19 rfl (lv_at hl 3 rfl) ?_
        obtain ⟨v2, ev2, h⟩ := bn_some h
        refine kS (As := [.int y1, .int y3]) (rest := []) SS hKK (qX8_contains l D cI cM y1 y3 v2 ev2) cw207 va_P_nil rfl hl.1 rfl (Nat.le_of_ble_eq_true rfl) dX8_chooseHoisted_20 ⟨Nat.zero_le _, Nat.zero_le _⟩ ?_
        refine lv_if_eq (tgt := 68) hx hb dX8_chooseHoisted_23 (by decide) (fun c3 => ?_) (fun c3 => ?_)
        · have h := ifp h c3
          refine lv_iinc (v := y3 + 1) (lv' := [(3, .int (y3 + 1)), (0, .ref a_x), (1, .int y1), (2, .ref a_k)]) hx hb dX8_chooseHoisted_68 hl (k := 3) rfl rfl (by decide) rfl (fun ls hl => ?_)
          refine lv_goto (tgt := 10) hx hb dX8_chooseHoisted_71 (by decide) ?_
          exact ih H locs x_hoistedOfCall g_count g_kept g_kinds g_positions y1 (y3 + 1) h hP hD hS ls (lv_sub (l' := [(0, .ref a_x), (1, .int y1), (2, .ref a_k), (3, .int (y3 + 1))]) hl [1, 2, 3, 0] rfl)
        · have h := ifn h c3
          refine lv_aload_n hx hb dX8_chooseHoisted_26 rfl (lv_at hl 0 rfl) ?_
          refine va_get (D := D) (ci := 8) (v := .ref a_g) (C := RX8) (T := TX8) (N := 6) hx hb hts hinX8 hown hKK.1 hP 0 rfl rfl 4 (by decide) lk40 (fun _ h9 => h9) rfl dX8_chooseHoisted_27 ?_
          refine lv_aload_n hx hb dX8_chooseHoisted_30 rfl (lv_at hl 2 rfl) ?_
          refine lv_iload_n hx hb dX8_chooseHoisted_31 rfl (lv_at hl 3 rfl) ?_
          refine lv_aload_n hx hb dX8_chooseHoisted_32 rfl (lv_at hl 0 rfl) ?_
          refine va_get (D := D) (ci := 8) (v := .ref a_d) (C := RX8) (T := TX8) (N := 6) hx hb hts hinX8 hown hKK.1 hP 0 rfl rfl 1 (by decide) lk19 (fun _ h9 => h9) rfl dX8_chooseHoisted_33 ?_
          obtain ⟨v4, g5, g6, g7, g8, ev4, h⟩ := bn5_some h
          refine kVB (As := [.ref a_k, .int y3, .ref a_d]) (rest := []) (st1 := [.int v4]) (Bs := [B_x cI cM a_x a_x_hoistedOfCall a_o a_d a_h a_e a_g x_hoistedOfCall, B_o cI cM a_o a_t a_m a_k , B_t cI cM a_t a_t_supertypes t_count t_interfaceSet t_supertypes, B_m cI cM a_m a_m_type a_m_name a_m_arity a_m_keys a_m_defaults m_count m_type m_name m_arity m_keys m_defaults, B_k cI cM a_k a_k_staticType a_k_dynamicType a_k_target a_k_argumentCounts a_k_temporaryCounts a_k_keys a_k_kinds a_k_values a_k_temporaryKinds a_k_newKinds a_k_newValues k_count k_frozenSet k_staticType k_dynamicType k_target k_argumentCounts k_temporaryCounts k_keys k_kinds k_values k_temporaryKinds k_newKinds k_newValues, B_d cI cM a_d a_d_sources a_d_keys a_d_defaults d_open d_method d_family d_oldCount d_keptSet d_count d_sources d_keys d_defaults d_usedKeys, B_h cI cM a_h a_h_saved a_h_ad h_count h_next, B_e cI cM a_e a_e_temporaries a_e_arguments e_counter e_temporaries e_arguments, B_g cI cM a_g a_g_kinds a_g_positions g_count g_kept g_kinds g_positions]) (Bs1 := [B_x cI cM a_x a_x_hoistedOfCall a_o a_d a_h a_e a_g x_hoistedOfCall, B_o cI cM a_o a_t a_m a_k , B_t cI cM a_t a_t_supertypes t_count t_interfaceSet t_supertypes, B_m cI cM a_m a_m_type a_m_name a_m_arity a_m_keys a_m_defaults m_count m_type m_name m_arity m_keys m_defaults, B_k cI cM a_k a_k_staticType a_k_dynamicType a_k_target a_k_argumentCounts a_k_temporaryCounts a_k_keys a_k_kinds a_k_values a_k_temporaryKinds a_k_newKinds a_k_newValues k_count k_frozenSet k_staticType k_dynamicType k_target k_argumentCounts k_temporaryCounts k_keys k_kinds k_values k_temporaryKinds k_newKinds k_newValues, B_d cI cM a_d a_d_sources a_d_keys a_d_defaults d_open d_method d_family d_oldCount d_keptSet d_count d_sources d_keys d_defaults d_usedKeys, B_h cI cM a_h a_h_saved a_h_ad h_count h_next, B_e cI cM a_e a_e_temporaries a_e_arguments e_counter e_temporaries e_arguments, B_g cI cM a_g a_g_kinds a_g_positions g5 g6 g7 g8]) SS hKK (qX4_choose l D cI cM a_g a_g_kinds a_g_positions a_k a_k_staticType a_k_dynamicType a_k_target a_k_argumentCounts a_k_temporaryCounts a_k_keys a_k_kinds a_k_values a_k_temporaryKinds a_k_newKinds a_k_newValues a_d a_d_sources a_d_keys a_d_defaults g_count g_kept g_kinds g_positions k_count k_frozenSet k_staticType k_dynamicType k_target k_argumentCounts k_temporaryCounts k_keys k_kinds k_values k_temporaryKinds k_newKinds k_newValues d_open d_method d_family d_oldCount d_keptSet d_count d_sources d_keys d_defaults d_usedKeys y3 v4 g5 g6 g7 g8 ev4) cw229 hP hD hS (isC := [8, 4, 5]) (isR := [0, 1, 2, 3, 6, 7]) (C0 := [B_g cI cM a_g a_g_kinds a_g_positions g_count g_kept g_kinds g_positions, B_k cI cM a_k a_k_staticType a_k_dynamicType a_k_target a_k_argumentCounts a_k_temporaryCounts a_k_keys a_k_kinds a_k_values a_k_temporaryKinds a_k_newKinds a_k_newValues k_count k_frozenSet k_staticType k_dynamicType k_target k_argumentCounts k_temporaryCounts k_keys k_kinds k_values k_temporaryKinds k_newKinds k_newValues, B_d cI cM a_d a_d_sources a_d_keys a_d_defaults d_open d_method d_family d_oldCount d_keptSet d_count d_sources d_keys d_defaults d_usedKeys]) (C1 := [B_g cI cM a_g a_g_kinds a_g_positions g5 g6 g7 g8, B_k cI cM a_k a_k_staticType a_k_dynamicType a_k_target a_k_argumentCounts a_k_temporaryCounts a_k_keys a_k_kinds a_k_values a_k_temporaryKinds a_k_newKinds a_k_newValues k_count k_frozenSet k_staticType k_dynamicType k_target k_argumentCounts k_temporaryCounts k_keys k_kinds k_values k_temporaryKinds k_newKinds k_newValues, B_d cI cM a_d a_d_sources a_d_keys a_d_defaults d_open d_method d_family d_oldCount d_keptSet d_count d_sources d_keys d_defaults d_usedKeys]) (Rr := [B_x cI cM a_x a_x_hoistedOfCall a_o a_d a_h a_e a_g x_hoistedOfCall, B_o cI cM a_o a_t a_m a_k , B_t cI cM a_t a_t_supertypes t_count t_interfaceSet t_supertypes, B_m cI cM a_m a_m_type a_m_name a_m_arity a_m_keys a_m_defaults m_count m_type m_name m_arity m_keys m_defaults, B_h cI cM a_h a_h_saved a_h_ad h_count h_next, B_e cI cM a_e a_e_temporaries a_e_arguments e_counter e_temporaries e_arguments]) (show (List.range 9).Perm ([8, 4, 5] ++ [0, 1, 2, 3, 6, 7]) by decide) rfl rfl rfl rfl rfl rfl rfl rfl 0 4 rfl rfl rfl hl.1 rfl (Nat.le_of_ble_eq_true rfl) dX8_chooseHoisted_36 ⟨Nat.zero_le _, Nat.zero_le _⟩ rfl (fun H locs hP hD hS => ?_)
          have hP : va_P D vwCl (W_x_o_t_m_k_d_h_e_g cI cM a_x a_x_hoistedOfCall a_o a_t a_t_supertypes a_m a_m_type a_m_name a_m_arity a_m_keys a_m_defaults a_k a_k_staticType a_k_dynamicType a_k_target a_k_argumentCounts a_k_temporaryCounts a_k_keys a_k_kinds a_k_values a_k_temporaryKinds a_k_newKinds a_k_newValues a_d a_d_sources a_d_keys a_d_defaults a_h a_h_saved a_e a_e_temporaries a_e_arguments a_g a_g_kinds a_g_positions a_h_ad x_hoistedOfCall t_count t_interfaceSet t_supertypes m_count m_type m_name m_arity m_keys m_defaults k_count k_frozenSet k_staticType k_dynamicType k_target k_argumentCounts k_temporaryCounts k_keys k_kinds k_values k_temporaryKinds k_newKinds k_newValues d_open d_method d_family d_oldCount d_keptSet d_count d_sources d_keys d_defaults d_usedKeys h_count h_next e_counter e_temporaries e_arguments g5 g6 g7 g8) H := hP
          have hD : va_D _ (W_x_o_t_m_k_d_h_e_g cI cM a_x a_x_hoistedOfCall a_o a_t a_t_supertypes a_m a_m_type a_m_name a_m_arity a_m_keys a_m_defaults a_k a_k_staticType a_k_dynamicType a_k_target a_k_argumentCounts a_k_temporaryCounts a_k_keys a_k_kinds a_k_values a_k_temporaryKinds a_k_newKinds a_k_newValues a_d a_d_sources a_d_keys a_d_defaults a_h a_h_saved a_e a_e_temporaries a_e_arguments a_g a_g_kinds a_g_positions a_h_ad x_hoistedOfCall t_count t_interfaceSet t_supertypes m_count m_type m_name m_arity m_keys m_defaults k_count k_frozenSet k_staticType k_dynamicType k_target k_argumentCounts k_temporaryCounts k_keys k_kinds k_values k_temporaryKinds k_newKinds k_newValues d_open d_method d_family d_oldCount d_keptSet d_count d_sources d_keys d_defaults d_usedKeys h_count h_next e_counter e_temporaries e_arguments g5 g6 g7 g8) := hD
          refine lv_istore (lv' := [(4, .int v4), (0, .ref a_x), (1, .int y1), (2, .ref a_k), (3, .int y3)]) hx hb dX8_chooseHoisted_39 hl (by decide) rfl (fun ls hl => ?_)
          refine lv_aload_n hx hb dX8_chooseHoisted_41 rfl (lv_at hl 3 rfl) ?_
          refine va_get (D := D) (ci := 0) (v := .ref a_k_temporaryCounts) (C := RX0) (T := TX0) (N := 13) hx hb hts hinX0 hown hKK.1 hP 11 rfl rfl 6 (by decide) lk190 (fun _ h9 => h9) rfl dX8_chooseHoisted_42 ?_
          refine lv_iload_n hx hb dX8_chooseHoisted_45 rfl (lv_at hl 4 rfl) ?_
          obtain ⟨v9, iv9, ev9, h⟩ := rd_some h
          refine kAld hx hb hKK hP 16 rfl iv9 ev9 dX8_chooseHoisted_46 ?_
          refine lv_iload hx hb dX8_chooseHoisted_47 (lv_at hl 0 rfl) ?_
          obtain ⟨v10, ev10, h⟩ := bn_some h
          refine kS (As := [.int v4]) (rest := [.int v9]) SS hKK (qJ6_bitCount_0f7a4 l D cI cM v4 v10 ev10) cw158 va_P_nil rfl hl.1 rfl (Nat.le_of_ble_eq_true rfl) dX8_chooseHoisted_49 ⟨Nat.zero_le _, Nat.zero_le _⟩ ?_
          refine lv_iadd hx hb dX8_chooseHoisted_52 ?_
          refine lv_bipush (v := 8) hx hb dX8_chooseHoisted_53 (by decide) ?_
          refine lv_icmp_le (tgt := 60) hx hb dX8_chooseHoisted_55 (by decide) (fun c11 => ?_) (fun c11 => ?_)
          · have h := ifp h c11
            refine lv_aload_n hx hb dX8_chooseHoisted_60 rfl (lv_at hl 1 rfl) ?_
            refine va_get (D := D) (ci := 8) (v := .ref a_x_hoistedOfCall) (C := RX8) (T := TX8) (N := 6) hx hb hts hinX8 hown hKK.1 hP 0 rfl rfl 5 (by decide) lk44 (fun _ h9 => h9) rfl dX8_chooseHoisted_61 ?_
            refine lv_iload_n hx hb dX8_chooseHoisted_64 rfl (lv_at hl 4 rfl) ?_
            refine lv_iload hx hb dX8_chooseHoisted_65 (lv_at hl 0 rfl) ?_
            obtain ⟨g12, ig12, eg12, h⟩ := wr_some h
            refine kAst hx hb hKK hP hD hS 1 rfl ig12 eg12 dX8_chooseHoisted_67 (fun H locs hP hD hS => ?_)
            have hP : va_P D vwCl (W_x_o_t_m_k_d_h_e_g cI cM a_x a_x_hoistedOfCall a_o a_t a_t_supertypes a_m a_m_type a_m_name a_m_arity a_m_keys a_m_defaults a_k a_k_staticType a_k_dynamicType a_k_target a_k_argumentCounts a_k_temporaryCounts a_k_keys a_k_kinds a_k_values a_k_temporaryKinds a_k_newKinds a_k_newValues a_d a_d_sources a_d_keys a_d_defaults a_h a_h_saved a_e a_e_temporaries a_e_arguments a_g a_g_kinds a_g_positions a_h_ad g12 t_count t_interfaceSet t_supertypes m_count m_type m_name m_arity m_keys m_defaults k_count k_frozenSet k_staticType k_dynamicType k_target k_argumentCounts k_temporaryCounts k_keys k_kinds k_values k_temporaryKinds k_newKinds k_newValues d_open d_method d_family d_oldCount d_keptSet d_count d_sources d_keys d_defaults d_usedKeys h_count h_next e_counter e_temporaries e_arguments g5 g6 g7 g8) H := hP
            have hD : va_D _ (W_x_o_t_m_k_d_h_e_g cI cM a_x a_x_hoistedOfCall a_o a_t a_t_supertypes a_m a_m_type a_m_name a_m_arity a_m_keys a_m_defaults a_k a_k_staticType a_k_dynamicType a_k_target a_k_argumentCounts a_k_temporaryCounts a_k_keys a_k_kinds a_k_values a_k_temporaryKinds a_k_newKinds a_k_newValues a_d a_d_sources a_d_keys a_d_defaults a_h a_h_saved a_e a_e_temporaries a_e_arguments a_g a_g_kinds a_g_positions a_h_ad g12 t_count t_interfaceSet t_supertypes m_count m_type m_name m_arity m_keys m_defaults k_count k_frozenSet k_staticType k_dynamicType k_target k_argumentCounts k_temporaryCounts k_keys k_kinds k_values k_temporaryKinds k_newKinds k_newValues d_open d_method d_family d_oldCount d_keptSet d_count d_sources d_keys d_defaults d_usedKeys h_count h_next e_counter e_temporaries e_arguments g5 g6 g7 g8) := hD
            refine lv_iinc (v := y3 + 1) (lv' := [(3, .int (y3 + 1)), (4, .int v4), (0, .ref a_x), (1, .int y1), (2, .ref a_k)]) hx hb dX8_chooseHoisted_68 hl (k := 4) rfl rfl (by decide) rfl (fun ls hl => ?_)
            refine lv_goto (tgt := 10) hx hb dX8_chooseHoisted_71 (by decide) ?_
            exact ih H locs g12 g5 g6 g7 g8 y1 (y3 + 1) h hP hD hS ls (lv_sub (l' := [(0, .ref a_x), (1, .int y1), (2, .ref a_k), (3, .int (y3 + 1))]) hl [2, 3, 4, 0] rfl)
          · have h := ifn h c11
            refine lv_iconst (v := 0) hx hb dX8_chooseHoisted_58 (by decide) ?_
            simp only [Option.some.injEq, Prod.mk.injEq] at h
            obtain ⟨e0, e1, e2, e3, e4, e5⟩ := h
            exact kRetZI hx hb hr hlk rfl e0 (by rw [← hw1, ← e1, ← e2, ← e3, ← e4, ← e5]; exact hP) hS dX8_chooseHoisted_59
  unfold fX8_chooseHoisted at h
  refine lv_aload_n hx hb dX8_chooseHoisted_0 rfl (lv_at hl 0 rfl) ?_
  refine va_get (D := D) (ci := 8) (v := .ref a_o) (C := RX8) (T := TX8) (N := 6) hx hb hts hinX8 hown hKK.1 hP 0 rfl rfl 0 (by decide) lk10 (fun _ h9 => h9) rfl dX8_chooseHoisted_1 ?_
  refine va_get (D := D) (ci := 6) (v := .ref a_k) (C := RX6) (T := TX6) (N := 3) hx hb hts hinX6 hown hKK.1 hP 2 rfl rfl 2 (by decide) lk124 (fun _ h9 => h9) rfl dX8_chooseHoisted_4 ?_
  refine lv_astore_n (lv' := [(2, .ref a_k), (0, .ref a_x), (1, .int x1)]) hx hb dX8_chooseHoisted_7 rfl hl (by decide) rfl (fun ls hl => ?_)
  refine lv_iconst (v := 0) hx hb dX8_chooseHoisted_8 (by decide) ?_
  refine lv_istore_n (lv' := [(3, .int 0), (2, .ref a_k), (0, .ref a_x), (1, .int x1)]) hx hb dX8_chooseHoisted_9 rfl hl (by decide) rfl (fun ls hl => ?_)
  exact F10 5000 s.heap [] x_hoistedOfCall g_count g_kept g_kinds g_positions x1 0 h hP hD hS ls (lv_sub (l' := [(0, .ref a_x), (1, .int x1), (2, .ref a_k), (3, .int 0)]) hl [2, 3, 1, 0] rfl)
set_option maxHeartbeats 8000000 in
set_option maxRecDepth 100000 in
theorem qX8_applyChange (l : Launch) (D : va_G) (cI cM : ClassId) (a_x a_x_hoistedOfCall a_o a_t a_t_supertypes a_m a_m_type a_m_name a_m_arity a_m_keys a_m_defaults a_k a_k_staticType a_k_dynamicType a_k_target a_k_argumentCounts a_k_temporaryCounts a_k_keys a_k_kinds a_k_values a_k_temporaryKinds a_k_newKinds a_k_newValues a_d a_d_sources a_d_keys a_d_defaults a_h a_h_saved a_e a_e_temporaries a_e_arguments a_g a_g_kinds a_g_positions : Nat) (a_h_ad : Nat → Nat → Nat) (x_hoistedOfCall : Nat → Int32) (t_count : Int32) (t_interfaceSet : Int32) (t_supertypes : Nat → Int32) (m_count : Int32) (m_type : Nat → Int32) (m_name : Nat → Int32) (m_arity : Nat → Int32) (m_keys : Nat → Int32) (m_defaults : Nat → Int32) (k_count : Int32) (k_frozenSet : Int32) (k_staticType : Nat → Int32) (k_dynamicType : Nat → Int32) (k_target : Nat → Int32) (k_argumentCounts : Nat → Int32) (k_temporaryCounts : Nat → Int32) (k_keys : Nat → Int32) (k_kinds : Nat → Int32) (k_values : Nat → Int32) (k_temporaryKinds : Nat → Int32) (k_newKinds : Nat → Int32) (k_newValues : Nat → Int32) (d_open : Int32) (d_method : Int32) (d_family : Int32) (d_oldCount : Int32) (d_keptSet : Int32) (d_count : Int32) (d_sources : Nat → Int32) (d_keys : Nat → Int32) (d_defaults : Nat → Int32) (d_usedKeys : Int32) (h_count : Int32) (h_next : Int32) (e_counter : Int32) (e_temporaries : Nat → Int32) (e_arguments : Nat → Int32) (g_count : Int32) (g_kept : Int32) (g_kinds : Nat → Int32) (g_positions : Nat → Int32) (h_hs : Nat → MS) (r : Int32) (r_x_hoistedOfCall : Nat → Int32) (r_m_arity : Nat → Int32) (r_m_keys : Nat → Int32) (r_m_defaults : Nat → Int32) (r_k_argumentCounts : Nat → Int32) (r_k_temporaryCounts : Nat → Int32) (r_k_keys : Nat → Int32) (r_k_kinds : Nat → Int32) (r_k_values : Nat → Int32) (r_k_temporaryKinds : Nat → Int32) (r_k_newKinds : Nat → Int32) (r_k_newValues : Nat → Int32) (r_d_open : Int32) (r_h_count : Int32) (r_h_next : Int32) (r_h_hs : Nat → MS) (r_g_count : Int32) (r_g_kept : Int32) (r_g_kinds : Nat → Int32) (r_g_positions : Nat → Int32) (h : fX8_applyChange x_hoistedOfCall t_count t_interfaceSet t_supertypes m_count m_type m_name m_arity m_keys m_defaults k_count k_frozenSet k_staticType k_dynamicType k_target k_argumentCounts k_temporaryCounts k_keys k_kinds k_values k_temporaryKinds k_newKinds k_newValues d_open d_method d_family d_oldCount d_keptSet d_count d_sources d_keys d_defaults h_count h_next h_hs g_count g_kept g_kinds g_positions = some (r, r_x_hoistedOfCall, r_m_arity, r_m_keys, r_m_defaults, r_k_argumentCounts, r_k_temporaryCounts, r_k_keys, r_k_kinds, r_k_values, r_k_temporaryKinds, r_k_newKinds, r_k_newValues, r_d_open, r_h_count, r_h_next, r_h_hs, r_g_count, r_g_kept, r_g_kinds, r_g_positions)) : IM l yX8_applyChange wsX8_applyChange rmX8_applyChange D cI cM [.ref a_x] (W_x_o_t_m_k_d_h_e_g cI cM a_x a_x_hoistedOfCall a_o a_t a_t_supertypes a_m a_m_type a_m_name a_m_arity a_m_keys a_m_defaults a_k a_k_staticType a_k_dynamicType a_k_target a_k_argumentCounts a_k_temporaryCounts a_k_keys a_k_kinds a_k_values a_k_temporaryKinds a_k_newKinds a_k_newValues a_d a_d_sources a_d_keys a_d_defaults a_h a_h_saved a_e a_e_temporaries a_e_arguments a_g a_g_kinds a_g_positions a_h_ad x_hoistedOfCall t_count t_interfaceSet t_supertypes m_count m_type m_name m_arity m_keys m_defaults k_count k_frozenSet k_staticType k_dynamicType k_target k_argumentCounts k_temporaryCounts k_keys k_kinds k_values k_temporaryKinds k_newKinds k_newValues d_open d_method d_family d_oldCount d_keptSet d_count d_sources d_keys d_defaults d_usedKeys h_count h_next e_counter e_temporaries e_arguments g_count g_kept g_kinds g_positions ++ hW cI cM a_h_ad h_hs) (W_x_o_t_m_k_d_h_e_g cI cM a_x a_x_hoistedOfCall a_o a_t a_t_supertypes a_m a_m_type a_m_name a_m_arity a_m_keys a_m_defaults a_k a_k_staticType a_k_dynamicType a_k_target a_k_argumentCounts a_k_temporaryCounts a_k_keys a_k_kinds a_k_values a_k_temporaryKinds a_k_newKinds a_k_newValues a_d a_d_sources a_d_keys a_d_defaults a_h a_h_saved a_e a_e_temporaries a_e_arguments a_g a_g_kinds a_g_positions a_h_ad r_x_hoistedOfCall t_count t_interfaceSet t_supertypes m_count m_type m_name r_m_arity r_m_keys r_m_defaults k_count k_frozenSet k_staticType k_dynamicType k_target r_k_argumentCounts r_k_temporaryCounts r_k_keys r_k_kinds r_k_values r_k_temporaryKinds r_k_newKinds r_k_newValues r_d_open d_method d_family d_oldCount d_keptSet d_count d_sources d_keys d_defaults d_usedKeys r_h_count r_h_next e_counter e_temporaries e_arguments r_g_count r_g_kept r_g_kinds r_g_positions ++ hW cI cM a_h_ad r_h_hs) (some (.int r)) := by
  refine IM.of (cc := cX8_applyChange) (maxL := 2) (ret := (some .int)) (by decide) rfl (Nat.le_of_ble_eq_true rfl) ?_
  intro p e s m below meth c ls hx hb hr hml hown hts hlk hKK hP hD hS hl
  have hown : s.vm.findClass RX8 = some m.cls := hown
  have hl : lv_has ls 2 [(0, .ref a_x)] := hl
  generalize hav : ([.ref a_x] : List Value) = av at hts ⊢
  generalize hw1 : W_x_o_t_m_k_d_h_e_g cI cM a_x a_x_hoistedOfCall a_o a_t a_t_supertypes a_m a_m_type a_m_name a_m_arity a_m_keys a_m_defaults a_k a_k_staticType a_k_dynamicType a_k_target a_k_argumentCounts a_k_temporaryCounts a_k_keys a_k_kinds a_k_values a_k_temporaryKinds a_k_newKinds a_k_newValues a_d a_d_sources a_d_keys a_d_defaults a_h a_h_saved a_e a_e_temporaries a_e_arguments a_g a_g_kinds a_g_positions a_h_ad r_x_hoistedOfCall t_count t_interfaceSet t_supertypes m_count m_type m_name r_m_arity r_m_keys r_m_defaults k_count k_frozenSet k_staticType k_dynamicType k_target r_k_argumentCounts r_k_temporaryCounts r_k_keys r_k_kinds r_k_values r_k_temporaryKinds r_k_newKinds r_k_newValues r_d_open d_method d_family d_oldCount d_keptSet d_count d_sources d_keys d_defaults d_usedKeys r_h_count r_h_next e_counter e_temporaries e_arguments r_g_count r_g_kept r_g_kinds r_g_positions ++ hW cI cM a_h_ad r_h_hs = w1
  generalize hw0 : W_x_o_t_m_k_d_h_e_g cI cM a_x a_x_hoistedOfCall a_o a_t a_t_supertypes a_m a_m_type a_m_name a_m_arity a_m_keys a_m_defaults a_k a_k_staticType a_k_dynamicType a_k_target a_k_argumentCounts a_k_temporaryCounts a_k_keys a_k_kinds a_k_values a_k_temporaryKinds a_k_newKinds a_k_newValues a_d a_d_sources a_d_keys a_d_defaults a_h a_h_saved a_e a_e_temporaries a_e_arguments a_g a_g_kinds a_g_positions a_h_ad x_hoistedOfCall t_count t_interfaceSet t_supertypes m_count m_type m_name m_arity m_keys m_defaults k_count k_frozenSet k_staticType k_dynamicType k_target k_argumentCounts k_temporaryCounts k_keys k_kinds k_values k_temporaryKinds k_newKinds k_newValues d_open d_method d_family d_oldCount d_keptSet d_count d_sources d_keys d_defaults d_usedKeys h_count h_next e_counter e_temporaries e_arguments g_count g_kept g_kinds g_positions ++ hW cI cM a_h_ad h_hs = w0 at hD hS ⊢
  have hP : va_P D vwCl (W_x_o_t_m_k_d_h_e_g cI cM a_x a_x_hoistedOfCall a_o a_t a_t_supertypes a_m a_m_type a_m_name a_m_arity a_m_keys a_m_defaults a_k a_k_staticType a_k_dynamicType a_k_target a_k_argumentCounts a_k_temporaryCounts a_k_keys a_k_kinds a_k_values a_k_temporaryKinds a_k_newKinds a_k_newValues a_d a_d_sources a_d_keys a_d_defaults a_h a_h_saved a_e a_e_temporaries a_e_arguments a_g a_g_kinds a_g_positions a_h_ad x_hoistedOfCall t_count t_interfaceSet t_supertypes m_count m_type m_name m_arity m_keys m_defaults k_count k_frozenSet k_staticType k_dynamicType k_target k_argumentCounts k_temporaryCounts k_keys k_kinds k_values k_temporaryKinds k_newKinds k_newValues d_open d_method d_family d_oldCount d_keptSet d_count d_sources d_keys d_defaults d_usedKeys h_count h_next e_counter e_temporaries e_arguments g_count g_kept g_kinds g_positions ++ hW cI cM a_h_ad h_hs) s.heap := hP
  have hD : va_D (fun q => q ∈ w0.map (·.1)) (W_x_o_t_m_k_d_h_e_g cI cM a_x a_x_hoistedOfCall a_o a_t a_t_supertypes a_m a_m_type a_m_name a_m_arity a_m_keys a_m_defaults a_k a_k_staticType a_k_dynamicType a_k_target a_k_argumentCounts a_k_temporaryCounts a_k_keys a_k_kinds a_k_values a_k_temporaryKinds a_k_newKinds a_k_newValues a_d a_d_sources a_d_keys a_d_defaults a_h a_h_saved a_e a_e_temporaries a_e_arguments a_g a_g_kinds a_g_positions a_h_ad x_hoistedOfCall t_count t_interfaceSet t_supertypes m_count m_type m_name m_arity m_keys m_defaults k_count k_frozenSet k_staticType k_dynamicType k_target k_argumentCounts k_temporaryCounts k_keys k_kinds k_values k_temporaryKinds k_newKinds k_newValues d_open d_method d_family d_oldCount d_keptSet d_count d_sources d_keys d_defaults d_usedKeys h_count h_next e_counter e_temporaries e_arguments g_count g_kept g_kinds g_positions ++ hW cI cM a_h_ad h_hs) := by rw [hw0]; exact hD
  have SS : CallFix p m c cX8_applyChange 2 s av.toArray wsX8_applyChange RX8 := ⟨hx, hb, hml, hown, hts⟩
  have hinX1 : ∀ w ∈ u_ws RX1 TX1 10, w ∈ wsX8_applyChange := by decide +kernel
  have hinX6 : ∀ w ∈ u_ws RX6 TX6 3, w ∈ wsX8_applyChange := by decide +kernel
  have hinX8 : ∀ w ∈ u_ws RX8 TX8 6, w ∈ wsX8_applyChange := by decide +kernel
  have lk10 := hts (.fieldLink RX8 10 "SignatureChanger" "model" "LSignatureChanger$Model;") (List.mem_of_getElem? (i := 3) rfl)
  have lk19 := hts (.fieldLink RX8 19 "SignatureChanger" "draft" "LSignatureChanger$Draft;") (List.mem_of_getElem? (i := 1) rfl)
  have lk26 := hts (.fieldLink RX8 26 "SignatureChanger" "history" "LSignatureChanger$History;") (List.mem_of_getElem? (i := 4) rfl)
  have lk44 := hts (.fieldLink RX8 44 "SignatureChanger" "hoistedOfCall" "[I") (List.mem_of_getElem? (i := 6) rfl)
  have lk66 := hts (.fieldLink RX8 66 "SignatureChanger$Model" "methods" "LSignatureChanger$Methods;") (List.mem_of_getElem? (i := 7) rfl)
  have lk124 := hts (.fieldLink RX8 124 "SignatureChanger$Model" "calls" "LSignatureChanger$Calls;") (List.mem_of_getElem? (i := 5) rfl)
  have lk197 := hts (.fieldLink RX8 197 "SignatureChanger$Draft" "open" "Z") (List.mem_of_getElem? (i := 2) rfl)
  have cw158 : CallB rmX8_applyChange s av.toArray RX8 158 yJ6_bitCount_0f7a4 cJ6_bitCount_0f7a4 1 (some .int) wsJ6_bitCount_0f7a4 rmJ6_bitCount_0f7a4 0 0 1 ∧ (Cond.static yJ6_bitCount_0f7a4).before av.toArray s = true := va_cwS 1 hts gX8_applyChange_J6_bitCount_0f7a4 rfl rfl rfl (by decide +kernel) ⟨Nat.le_of_ble_eq_true rfl, Nat.le_of_ble_eq_true rfl⟩
  have cw221 : CallW rmX8_applyChange s av.toArray RX8 RX6 221 yX6_clashOf cX6_clashOf 4 (some .int) wsX6_clashOf rmX6_clashOf 0 0 1 := cwV 1 hts gX8_applyChange_X6_clashOf rfl rfl rfl (by decide +kernel) ⟨Nat.le_of_ble_eq_true rfl, Nat.le_of_ble_eq_true rfl⟩
  have cw225 : CallW rmX8_applyChange s av.toArray RX8 RX8 225 yX8_rewrittenCalls cX8_rewrittenCalls 1 (some .int) wsX8_rewrittenCalls rmX8_rewrittenCalls 0 0 0 := cwV 0 hts gX8_applyChange_X8_rewrittenCalls rfl rfl rfl (by decide +kernel) ⟨Nat.le_of_ble_eq_true rfl, Nat.le_of_ble_eq_true rfl⟩
  have cw239 : CallW rmX8_applyChange s av.toArray RX8 RX8 239 yX8_breaksFrozenCall cX8_breaksFrozenCall 2 (some .boolean) wsX8_breaksFrozenCall rmX8_breaksFrozenCall 0 0 0 := cwV 0 hts gX8_applyChange_X8_breaksFrozenCall rfl rfl rfl (by decide +kernel) ⟨Nat.le_of_ble_eq_true rfl, Nat.le_of_ble_eq_true rfl⟩
  have cw243 : CallW rmX8_applyChange s av.toArray RX8 RX8 243 yX8_chooseHoisted cX8_chooseHoisted 5 (some .boolean) wsX8_chooseHoisted rmX8_chooseHoisted 0 0 1 := cwV 1 hts gX8_applyChange_X8_chooseHoisted rfl rfl rfl (by decide +kernel) ⟨Nat.le_of_ble_eq_true rfl, Nat.le_of_ble_eq_true rfl⟩
  have cw246 : CallW rmX8_applyChange s av.toArray RX8 RX3 246 yX3_remember cX3_remember 2 none wsX3_remember rmX3_remember 0 0 1 := cwV 1 hts gX8_applyChange_X3_remember rfl rfl rfl (by decide +kernel) ⟨Nat.le_of_ble_eq_true rfl, Nat.le_of_ble_eq_true rfl⟩
  have cw250 : CallW rmX8_applyChange s av.toArray RX8 RX0 250 yX0_rewrite cX0_rewrite 5 none wsX0_rewrite rmX0_rewrite 0 0 3 := cwV 3 hts gX8_applyChange_X0_rewrite rfl rfl rfl (by decide +kernel) ⟨Nat.le_of_ble_eq_true rfl, Nat.le_of_ble_eq_true rfl⟩
  have cw254 : CallW rmX8_applyChange s av.toArray RX8 RX5 254 yX5_replaceParameters cX5_replaceParameters 4 none wsX5_replaceParameters rmX5_replaceParameters 0 0 1 := cwV 1 hts gX8_applyChange_X5_replaceParameters rfl rfl rfl (by decide +kernel) ⟨Nat.le_of_ble_eq_true rfl, Nat.le_of_ble_eq_true rfl⟩
  have cw258 : CallW rmX8_applyChange s av.toArray RX8 RX1 258 yX1_close cX1_close 1 none wsX1_close rmX1_close 0 0 0 := cwV 0 hts gX8_applyChange_X1_close rfl rfl rfl (by decide +kernel) ⟨Nat.le_of_ble_eq_true rfl, Nat.le_of_ble_eq_true rfl⟩
  unfold fX8_applyChange at h
  refine lv_aload_n hx hb dX8_applyChange_0 rfl (lv_at hl 0 rfl) ?_
  refine va_get (D := D) (ci := 8) (v := .ref a_d) (C := RX8) (T := TX8) (N := 6) hx hb hts hinX8 hown hKK.1 hP 0 rfl rfl 1 (by decide) lk19 (fun _ h9 => h9) rfl dX8_applyChange_1 ?_
  refine va_get (D := D) (ci := 1) (v := .int d_open) (C := RX1) (T := TX1) (N := 10) hx hb hts hinX1 hown hKK.1 hP 23 rfl rfl 0 (by decide) lk197 (fun _ h9 => h9) rfl dX8_applyChange_4 ?_
  refine lv_if_eq (tgt := 33) hx hb dX8_applyChange_7 (by decide) (fun c1 => ?_) (fun c1 => ?_)
  · have h := ifp h c1
    refine lv_bipush (v := (-2)) hx hb dX8_applyChange_33 (by decide) ?_
    simp only [Option.some.injEq, Prod.mk.injEq] at h
    obtain ⟨e0, e1, e2, e3, e4, e5, e6, e7, e8, e9, e10, e11, e12, e13, e14, e15, e16, e17, e18, e19, e20⟩ := h
    exact kRetI hx hb hr hlk e0 (by rw [← hw1, ← e1, ← e2, ← e3, ← e4, ← e5, ← e6, ← e7, ← e8, ← e9, ← e10, ← e11, ← e12, ← e13, ← e14, ← e15, ← e16, ← e17, ← e18, ← e19, ← e20]; exact hP) hS dX8_applyChange_35
  · have h := ifn h c1
    refine lv_aload_n hx hb dX8_applyChange_10 rfl (lv_at hl 0 rfl) ?_
    refine va_get (D := D) (ci := 8) (v := .ref a_o) (C := RX8) (T := TX8) (N := 6) hx hb hts hinX8 hown hKK.1 hP 0 rfl rfl 0 (by decide) lk10 (fun _ h9 => h9) rfl dX8_applyChange_11 ?_
    refine lv_aload_n hx hb dX8_applyChange_14 rfl (lv_at hl 0 rfl) ?_
    refine va_get (D := D) (ci := 8) (v := .ref a_d) (C := RX8) (T := TX8) (N := 6) hx hb hts hinX8 hown hKK.1 hP 0 rfl rfl 1 (by decide) lk19 (fun _ h9 => h9) rfl dX8_applyChange_15 ?_
    obtain ⟨v2, ev2, h⟩ := bn_some h
    have hs3 : va_P D vwCl (W_o_t_m_k_d cI cM a_o a_t a_t_supertypes a_m a_m_type a_m_name a_m_arity a_m_keys a_m_defaults a_k a_k_staticType a_k_dynamicType a_k_target a_k_argumentCounts a_k_temporaryCounts a_k_keys a_k_kinds a_k_values a_k_temporaryKinds a_k_newKinds a_k_newValues a_d a_d_sources a_d_keys a_d_defaults t_count t_interfaceSet t_supertypes m_count m_type m_name m_arity m_keys m_defaults k_count k_frozenSet k_staticType k_dynamicType k_target k_argumentCounts k_temporaryCounts k_keys k_kinds k_values k_temporaryKinds k_newKinds k_newValues d_open d_method d_family d_oldCount d_keptSet d_count d_sources d_keys d_defaults d_usedKeys) _ := blkP (Bs := [B_x cI cM a_x a_x_hoistedOfCall a_o a_d a_h a_e a_g x_hoistedOfCall, B_o cI cM a_o a_t a_m a_k , B_t cI cM a_t a_t_supertypes t_count t_interfaceSet t_supertypes, B_m cI cM a_m a_m_type a_m_name a_m_arity a_m_keys a_m_defaults m_count m_type m_name m_arity m_keys m_defaults, B_k cI cM a_k a_k_staticType a_k_dynamicType a_k_target a_k_argumentCounts a_k_temporaryCounts a_k_keys a_k_kinds a_k_values a_k_temporaryKinds a_k_newKinds a_k_newValues k_count k_frozenSet k_staticType k_dynamicType k_target k_argumentCounts k_temporaryCounts k_keys k_kinds k_values k_temporaryKinds k_newKinds k_newValues, B_d cI cM a_d a_d_sources a_d_keys a_d_defaults d_open d_method d_family d_oldCount d_keptSet d_count d_sources d_keys d_defaults d_usedKeys, B_h cI cM a_h a_h_saved a_h_ad h_count h_next, B_e cI cM a_e a_e_temporaries a_e_arguments e_counter e_temporaries e_arguments, B_g cI cM a_g a_g_kinds a_g_positions g_count g_kept g_kinds g_positions, hW cI cM a_h_ad h_hs]) hP [1, 2, 3, 4, 5] (C0 := [B_o cI cM a_o a_t a_m a_k , B_t cI cM a_t a_t_supertypes t_count t_interfaceSet t_supertypes, B_m cI cM a_m a_m_type a_m_name a_m_arity a_m_keys a_m_defaults m_count m_type m_name m_arity m_keys m_defaults, B_k cI cM a_k a_k_staticType a_k_dynamicType a_k_target a_k_argumentCounts a_k_temporaryCounts a_k_keys a_k_kinds a_k_values a_k_temporaryKinds a_k_newKinds a_k_newValues k_count k_frozenSet k_staticType k_dynamicType k_target k_argumentCounts k_temporaryCounts k_keys k_kinds k_values k_temporaryKinds k_newKinds k_newValues, B_d cI cM a_d a_d_sources a_d_keys a_d_defaults d_open d_method d_family d_oldCount d_keptSet d_count d_sources d_keys d_defaults d_usedKeys]) rfl rfl
    refine kV (As := [.ref a_d]) (rest := []) SS hKK (qX6_clashOf l D cI cM a_o a_t a_t_supertypes a_m a_m_type a_m_name a_m_arity a_m_keys a_m_defaults a_k a_k_staticType a_k_dynamicType a_k_target a_k_argumentCounts a_k_temporaryCounts a_k_keys a_k_kinds a_k_values a_k_temporaryKinds a_k_newKinds a_k_newValues a_d a_d_sources a_d_keys a_d_defaults t_count t_interfaceSet t_supertypes m_count m_type m_name m_arity m_keys m_defaults k_count k_frozenSet k_staticType k_dynamicType k_target k_argumentCounts k_temporaryCounts k_keys k_kinds k_values k_temporaryKinds k_newKinds k_newValues d_open d_method d_family d_oldCount d_keptSet d_count d_sources d_keys d_defaults d_usedKeys v2 ev2) cw221 hs3 0 6 rfl rfl rfl hl.1 rfl (Nat.le_of_ble_eq_true rfl) dX8_applyChange_18 ⟨Nat.zero_le _, Nat.zero_le _⟩ ?_
    refine lv_bipush (v := (-9)) hx hb dX8_applyChange_21 (by decide) ?_
    refine lv_icmp_ne (tgt := 33) hx hb dX8_applyChange_23 (by decide) (fun c4 => ?_) (fun c4 => ?_)
    · have h := ifn h c4
      refine lv_bipush (v := (-2)) hx hb dX8_applyChange_33 (by decide) ?_
      simp only [Option.some.injEq, Prod.mk.injEq] at h
      obtain ⟨e0, e1, e2, e3, e4, e5, e6, e7, e8, e9, e10, e11, e12, e13, e14, e15, e16, e17, e18, e19, e20⟩ := h
      exact kRetI hx hb hr hlk e0 (by rw [← hw1, ← e1, ← e2, ← e3, ← e4, ← e5, ← e6, ← e7, ← e8, ← e9, ← e10, ← e11, ← e12, ← e13, ← e14, ← e15, ← e16, ← e17, ← e18, ← e19, ← e20]; exact hP) hS dX8_applyChange_35
    · have h := ifp h c4
      refine lv_aload_n hx hb dX8_applyChange_26 rfl (lv_at hl 0 rfl) ?_
      obtain ⟨v5, ev5, h⟩ := bn_some h
      have hs6 : va_P D vwCl (W_x_o_t_m_k_d_h_e_g cI cM a_x a_x_hoistedOfCall a_o a_t a_t_supertypes a_m a_m_type a_m_name a_m_arity a_m_keys a_m_defaults a_k a_k_staticType a_k_dynamicType a_k_target a_k_argumentCounts a_k_temporaryCounts a_k_keys a_k_kinds a_k_values a_k_temporaryKinds a_k_newKinds a_k_newValues a_d a_d_sources a_d_keys a_d_defaults a_h a_h_saved a_e a_e_temporaries a_e_arguments a_g a_g_kinds a_g_positions a_h_ad x_hoistedOfCall t_count t_interfaceSet t_supertypes m_count m_type m_name m_arity m_keys m_defaults k_count k_frozenSet k_staticType k_dynamicType k_target k_argumentCounts k_temporaryCounts k_keys k_kinds k_values k_temporaryKinds k_newKinds k_newValues d_open d_method d_family d_oldCount d_keptSet d_count d_sources d_keys d_defaults d_usedKeys h_count h_next e_counter e_temporaries e_arguments g_count g_kept g_kinds g_positions) _ := blkP (Bs := [B_x cI cM a_x a_x_hoistedOfCall a_o a_d a_h a_e a_g x_hoistedOfCall, B_o cI cM a_o a_t a_m a_k , B_t cI cM a_t a_t_supertypes t_count t_interfaceSet t_supertypes, B_m cI cM a_m a_m_type a_m_name a_m_arity a_m_keys a_m_defaults m_count m_type m_name m_arity m_keys m_defaults, B_k cI cM a_k a_k_staticType a_k_dynamicType a_k_target a_k_argumentCounts a_k_temporaryCounts a_k_keys a_k_kinds a_k_values a_k_temporaryKinds a_k_newKinds a_k_newValues k_count k_frozenSet k_staticType k_dynamicType k_target k_argumentCounts k_temporaryCounts k_keys k_kinds k_values k_temporaryKinds k_newKinds k_newValues, B_d cI cM a_d a_d_sources a_d_keys a_d_defaults d_open d_method d_family d_oldCount d_keptSet d_count d_sources d_keys d_defaults d_usedKeys, B_h cI cM a_h a_h_saved a_h_ad h_count h_next, B_e cI cM a_e a_e_temporaries a_e_arguments e_counter e_temporaries e_arguments, B_g cI cM a_g a_g_kinds a_g_positions g_count g_kept g_kinds g_positions, hW cI cM a_h_ad h_hs]) hP [0, 1, 2, 3, 4, 5, 6, 7, 8] (C0 := [B_x cI cM a_x a_x_hoistedOfCall a_o a_d a_h a_e a_g x_hoistedOfCall, B_o cI cM a_o a_t a_m a_k , B_t cI cM a_t a_t_supertypes t_count t_interfaceSet t_supertypes, B_m cI cM a_m a_m_type a_m_name a_m_arity a_m_keys a_m_defaults m_count m_type m_name m_arity m_keys m_defaults, B_k cI cM a_k a_k_staticType a_k_dynamicType a_k_target a_k_argumentCounts a_k_temporaryCounts a_k_keys a_k_kinds a_k_values a_k_temporaryKinds a_k_newKinds a_k_newValues k_count k_frozenSet k_staticType k_dynamicType k_target k_argumentCounts k_temporaryCounts k_keys k_kinds k_values k_temporaryKinds k_newKinds k_newValues, B_d cI cM a_d a_d_sources a_d_keys a_d_defaults d_open d_method d_family d_oldCount d_keptSet d_count d_sources d_keys d_defaults d_usedKeys, B_h cI cM a_h a_h_saved a_h_ad h_count h_next, B_e cI cM a_e a_e_temporaries a_e_arguments e_counter e_temporaries e_arguments, B_g cI cM a_g a_g_kinds a_g_positions g_count g_kept g_kinds g_positions]) rfl rfl
      refine kV (As := []) (rest := []) SS hKK (qX8_breaksFrozenCall l D cI cM a_x a_x_hoistedOfCall a_o a_t a_t_supertypes a_m a_m_type a_m_name a_m_arity a_m_keys a_m_defaults a_k a_k_staticType a_k_dynamicType a_k_target a_k_argumentCounts a_k_temporaryCounts a_k_keys a_k_kinds a_k_values a_k_temporaryKinds a_k_newKinds a_k_newValues a_d a_d_sources a_d_keys a_d_defaults a_h a_h_saved a_e a_e_temporaries a_e_arguments a_g a_g_kinds a_g_positions a_h_ad x_hoistedOfCall t_count t_interfaceSet t_supertypes m_count m_type m_name m_arity m_keys m_defaults k_count k_frozenSet k_staticType k_dynamicType k_target k_argumentCounts k_temporaryCounts k_keys k_kinds k_values k_temporaryKinds k_newKinds k_newValues d_open d_method d_family d_oldCount d_keptSet d_count d_sources d_keys d_defaults d_usedKeys h_count h_next e_counter e_temporaries e_arguments g_count g_kept g_kinds g_positions v5 ev5) cw239 hs6 0 8 rfl rfl rfl hl.1 rfl (Nat.le_of_ble_eq_true rfl) dX8_applyChange_27 ⟨Nat.zero_le _, Nat.zero_le _⟩ ?_
      refine lv_if_eq (tgt := 36) hx hb dX8_applyChange_30 (by decide) (fun c7 => ?_) (fun c7 => ?_)
      · have h := ifp h c7
        refine lv_aload_n hx hb dX8_applyChange_36 rfl (lv_at hl 0 rfl) ?_
        obtain ⟨v8, ev8, h⟩ := bn_some h
        refine kV (As := []) (rest := []) SS hKK (qX8_rewrittenCalls l D cI cM a_x a_x_hoistedOfCall a_o a_t a_t_supertypes a_m a_m_type a_m_name a_m_arity a_m_keys a_m_defaults a_k a_k_staticType a_k_dynamicType a_k_target a_k_argumentCounts a_k_temporaryCounts a_k_keys a_k_kinds a_k_values a_k_temporaryKinds a_k_newKinds a_k_newValues a_d a_d_sources a_d_keys a_d_defaults a_h a_h_saved a_e a_e_temporaries a_e_arguments a_g a_g_kinds a_g_positions a_h_ad x_hoistedOfCall t_count t_interfaceSet t_supertypes m_count m_type m_name m_arity m_keys m_defaults k_count k_frozenSet k_staticType k_dynamicType k_target k_argumentCounts k_temporaryCounts k_keys k_kinds k_values k_temporaryKinds k_newKinds k_newValues d_open d_method d_family d_oldCount d_keptSet d_count d_sources d_keys d_defaults d_usedKeys h_count h_next e_counter e_temporaries e_arguments g_count g_kept g_kinds g_positions v8 ev8) cw225 hs6 0 8 rfl rfl rfl hl.1 rfl (Nat.le_of_ble_eq_true rfl) dX8_applyChange_37 ⟨Nat.zero_le _, Nat.zero_le _⟩ ?_
        refine lv_istore_n (lv' := [(1, .int v8), (0, .ref a_x)]) hx hb dX8_applyChange_40 rfl hl (by decide) rfl (fun ls hl => ?_)
        refine lv_aload_n hx hb dX8_applyChange_41 rfl (lv_at hl 1 rfl) ?_
        refine lv_iload_n hx hb dX8_applyChange_42 rfl (lv_at hl 0 rfl) ?_
        obtain ⟨v9, g10, g11, g12, g13, g14, ev9, h⟩ := bn6_some h
        refine kVB (As := [.int v8]) (rest := []) (st1 := [.int v9]) (Bs := [B_x cI cM a_x a_x_hoistedOfCall a_o a_d a_h a_e a_g x_hoistedOfCall, B_o cI cM a_o a_t a_m a_k , B_t cI cM a_t a_t_supertypes t_count t_interfaceSet t_supertypes, B_m cI cM a_m a_m_type a_m_name a_m_arity a_m_keys a_m_defaults m_count m_type m_name m_arity m_keys m_defaults, B_k cI cM a_k a_k_staticType a_k_dynamicType a_k_target a_k_argumentCounts a_k_temporaryCounts a_k_keys a_k_kinds a_k_values a_k_temporaryKinds a_k_newKinds a_k_newValues k_count k_frozenSet k_staticType k_dynamicType k_target k_argumentCounts k_temporaryCounts k_keys k_kinds k_values k_temporaryKinds k_newKinds k_newValues, B_d cI cM a_d a_d_sources a_d_keys a_d_defaults d_open d_method d_family d_oldCount d_keptSet d_count d_sources d_keys d_defaults d_usedKeys, B_h cI cM a_h a_h_saved a_h_ad h_count h_next, B_e cI cM a_e a_e_temporaries a_e_arguments e_counter e_temporaries e_arguments, B_g cI cM a_g a_g_kinds a_g_positions g_count g_kept g_kinds g_positions, hW cI cM a_h_ad h_hs]) (Bs1 := [B_x cI cM a_x a_x_hoistedOfCall a_o a_d a_h a_e a_g g10, B_o cI cM a_o a_t a_m a_k , B_t cI cM a_t a_t_supertypes t_count t_interfaceSet t_supertypes, B_m cI cM a_m a_m_type a_m_name a_m_arity a_m_keys a_m_defaults m_count m_type m_name m_arity m_keys m_defaults, B_k cI cM a_k a_k_staticType a_k_dynamicType a_k_target a_k_argumentCounts a_k_temporaryCounts a_k_keys a_k_kinds a_k_values a_k_temporaryKinds a_k_newKinds a_k_newValues k_count k_frozenSet k_staticType k_dynamicType k_target k_argumentCounts k_temporaryCounts k_keys k_kinds k_values k_temporaryKinds k_newKinds k_newValues, B_d cI cM a_d a_d_sources a_d_keys a_d_defaults d_open d_method d_family d_oldCount d_keptSet d_count d_sources d_keys d_defaults d_usedKeys, B_h cI cM a_h a_h_saved a_h_ad h_count h_next, B_e cI cM a_e a_e_temporaries a_e_arguments e_counter e_temporaries e_arguments, B_g cI cM a_g a_g_kinds a_g_positions g11 g12 g13 g14, hW cI cM a_h_ad h_hs]) SS hKK (qX8_chooseHoisted l D cI cM a_x a_x_hoistedOfCall a_o a_t a_t_supertypes a_m a_m_type a_m_name a_m_arity a_m_keys a_m_defaults a_k a_k_staticType a_k_dynamicType a_k_target a_k_argumentCounts a_k_temporaryCounts a_k_keys a_k_kinds a_k_values a_k_temporaryKinds a_k_newKinds a_k_newValues a_d a_d_sources a_d_keys a_d_defaults a_h a_h_saved a_e a_e_temporaries a_e_arguments a_g a_g_kinds a_g_positions a_h_ad x_hoistedOfCall t_count t_interfaceSet t_supertypes m_count m_type m_name m_arity m_keys m_defaults k_count k_frozenSet k_staticType k_dynamicType k_target k_argumentCounts k_temporaryCounts k_keys k_kinds k_values k_temporaryKinds k_newKinds k_newValues d_open d_method d_family d_oldCount d_keptSet d_count d_sources d_keys d_defaults d_usedKeys h_count h_next e_counter e_temporaries e_arguments g_count g_kept g_kinds g_positions v8 v9 g10 g11 g12 g13 g14 ev9) cw243 hP hD hS (isC := [0, 1, 2, 3, 4, 5, 6, 7, 8]) (isR := [9]) (C0 := [B_x cI cM a_x a_x_hoistedOfCall a_o a_d a_h a_e a_g x_hoistedOfCall, B_o cI cM a_o a_t a_m a_k , B_t cI cM a_t a_t_supertypes t_count t_interfaceSet t_supertypes, B_m cI cM a_m a_m_type a_m_name a_m_arity a_m_keys a_m_defaults m_count m_type m_name m_arity m_keys m_defaults, B_k cI cM a_k a_k_staticType a_k_dynamicType a_k_target a_k_argumentCounts a_k_temporaryCounts a_k_keys a_k_kinds a_k_values a_k_temporaryKinds a_k_newKinds a_k_newValues k_count k_frozenSet k_staticType k_dynamicType k_target k_argumentCounts k_temporaryCounts k_keys k_kinds k_values k_temporaryKinds k_newKinds k_newValues, B_d cI cM a_d a_d_sources a_d_keys a_d_defaults d_open d_method d_family d_oldCount d_keptSet d_count d_sources d_keys d_defaults d_usedKeys, B_h cI cM a_h a_h_saved a_h_ad h_count h_next, B_e cI cM a_e a_e_temporaries a_e_arguments e_counter e_temporaries e_arguments, B_g cI cM a_g a_g_kinds a_g_positions g_count g_kept g_kinds g_positions]) (C1 := [B_x cI cM a_x a_x_hoistedOfCall a_o a_d a_h a_e a_g g10, B_o cI cM a_o a_t a_m a_k , B_t cI cM a_t a_t_supertypes t_count t_interfaceSet t_supertypes, B_m cI cM a_m a_m_type a_m_name a_m_arity a_m_keys a_m_defaults m_count m_type m_name m_arity m_keys m_defaults, B_k cI cM a_k a_k_staticType a_k_dynamicType a_k_target a_k_argumentCounts a_k_temporaryCounts a_k_keys a_k_kinds a_k_values a_k_temporaryKinds a_k_newKinds a_k_newValues k_count k_frozenSet k_staticType k_dynamicType k_target k_argumentCounts k_temporaryCounts k_keys k_kinds k_values k_temporaryKinds k_newKinds k_newValues, B_d cI cM a_d a_d_sources a_d_keys a_d_defaults d_open d_method d_family d_oldCount d_keptSet d_count d_sources d_keys d_defaults d_usedKeys, B_h cI cM a_h a_h_saved a_h_ad h_count h_next, B_e cI cM a_e a_e_temporaries a_e_arguments e_counter e_temporaries e_arguments, B_g cI cM a_g a_g_kinds a_g_positions g11 g12 g13 g14]) (Rr := [hW cI cM a_h_ad h_hs]) (show (List.range 10).Perm ([0, 1, 2, 3, 4, 5, 6, 7, 8] ++ [9]) by decide) rfl rfl rfl rfl rfl rfl rfl rfl 0 8 rfl rfl rfl hl.1 rfl (Nat.le_of_ble_eq_true rfl) dX8_applyChange_43 ⟨Nat.zero_le _, Nat.zero_le _⟩ rfl (fun H locs hP hD hS => ?_)
        have hP : va_P D vwCl (W_x_o_t_m_k_d_h_e_g cI cM a_x a_x_hoistedOfCall a_o a_t a_t_supertypes a_m a_m_type a_m_name a_m_arity a_m_keys a_m_defaults a_k a_k_staticType a_k_dynamicType a_k_target a_k_argumentCounts a_k_temporaryCounts a_k_keys a_k_kinds a_k_values a_k_temporaryKinds a_k_newKinds a_k_newValues a_d a_d_sources a_d_keys a_d_defaults a_h a_h_saved a_e a_e_temporaries a_e_arguments a_g a_g_kinds a_g_positions a_h_ad g10 t_count t_interfaceSet t_supertypes m_count m_type m_name m_arity m_keys m_defaults k_count k_frozenSet k_staticType k_dynamicType k_target k_argumentCounts k_temporaryCounts k_keys k_kinds k_values k_temporaryKinds k_newKinds k_newValues d_open d_method d_family d_oldCount d_keptSet d_count d_sources d_keys d_defaults d_usedKeys h_count h_next e_counter e_temporaries e_arguments g11 g12 g13 g14 ++ hW cI cM a_h_ad h_hs) H := hP
        have hD : va_D _ (W_x_o_t_m_k_d_h_e_g cI cM a_x a_x_hoistedOfCall a_o a_t a_t_supertypes a_m a_m_type a_m_name a_m_arity a_m_keys a_m_defaults a_k a_k_staticType a_k_dynamicType a_k_target a_k_argumentCounts a_k_temporaryCounts a_k_keys a_k_kinds a_k_values a_k_temporaryKinds a_k_newKinds a_k_newValues a_d a_d_sources a_d_keys a_d_defaults a_h a_h_saved a_e a_e_temporaries a_e_arguments a_g a_g_kinds a_g_positions a_h_ad g10 t_count t_interfaceSet t_supertypes m_count m_type m_name m_arity m_keys m_defaults k_count k_frozenSet k_staticType k_dynamicType k_target k_argumentCounts k_temporaryCounts k_keys k_kinds k_values k_temporaryKinds k_newKinds k_newValues d_open d_method d_family d_oldCount d_keptSet d_count d_sources d_keys d_defaults d_usedKeys h_count h_next e_counter e_temporaries e_arguments g11 g12 g13 g14 ++ hW cI cM a_h_ad h_hs) := hD
        refine lv_if_ne (tgt := 52) hx hb dX8_applyChange_46 (by decide) (fun c15 => ?_) (fun c15 => ?_)
        · have h := ifn h c15
          refine lv_aload_n hx hb dX8_applyChange_52 rfl (lv_at hl 1 rfl) ?_
          refine va_get (D := D) (ci := 8) (v := .ref a_h) (C := RX8) (T := TX8) (N := 6) hx hb hts hinX8 hown hKK.1 hP 0 rfl rfl 2 (by decide) lk26 (fun _ h9 => h9) rfl dX8_applyChange_53 ?_
          refine lv_aload_n hx hb dX8_applyChange_56 rfl (lv_at hl 1 rfl) ?_
          refine va_get (D := D) (ci := 8) (v := .ref a_o) (C := RX8) (T := TX8) (N := 6) hx hb hts hinX8 hown hKK.1 hP 0 rfl rfl 0 (by decide) lk10 (fun _ h9 => h9) rfl dX8_applyChange_57 ?_
          obtain ⟨g16, g17, g18, eg16, h⟩ := bn3_some h
          refine kVB (As := [.ref a_o]) (rest := []) (st1 := []) (Bs := [B_x cI cM a_x a_x_hoistedOfCall a_o a_d a_h a_e a_g g10, B_o cI cM a_o a_t a_m a_k , B_t cI cM a_t a_t_supertypes t_count t_interfaceSet t_supertypes, B_m cI cM a_m a_m_type a_m_name a_m_arity a_m_keys a_m_defaults m_count m_type m_name m_arity m_keys m_defaults, B_k cI cM a_k a_k_staticType a_k_dynamicType a_k_target a_k_argumentCounts a_k_temporaryCounts a_k_keys a_k_kinds a_k_values a_k_temporaryKinds a_k_newKinds a_k_newValues k_count k_frozenSet k_staticType k_dynamicType k_target k_argumentCounts k_temporaryCounts k_keys k_kinds k_values k_temporaryKinds k_newKinds k_newValues, B_d cI cM a_d a_d_sources a_d_keys a_d_defaults d_open d_method d_family d_oldCount d_keptSet d_count d_sources d_keys d_defaults d_usedKeys, B_h cI cM a_h a_h_saved a_h_ad h_count h_next, B_e cI cM a_e a_e_temporaries a_e_arguments e_counter e_temporaries e_arguments, B_g cI cM a_g a_g_kinds a_g_positions g11 g12 g13 g14, hW cI cM a_h_ad h_hs]) (Bs1 := [B_x cI cM a_x a_x_hoistedOfCall a_o a_d a_h a_e a_g g10, B_o cI cM a_o a_t a_m a_k , B_t cI cM a_t a_t_supertypes t_count t_interfaceSet t_supertypes, B_m cI cM a_m a_m_type a_m_name a_m_arity a_m_keys a_m_defaults m_count m_type m_name m_arity m_keys m_defaults, B_k cI cM a_k a_k_staticType a_k_dynamicType a_k_target a_k_argumentCounts a_k_temporaryCounts a_k_keys a_k_kinds a_k_values a_k_temporaryKinds a_k_newKinds a_k_newValues k_count k_frozenSet k_staticType k_dynamicType k_target k_argumentCounts k_temporaryCounts k_keys k_kinds k_values k_temporaryKinds k_newKinds k_newValues, B_d cI cM a_d a_d_sources a_d_keys a_d_defaults d_open d_method d_family d_oldCount d_keptSet d_count d_sources d_keys d_defaults d_usedKeys, B_h cI cM a_h a_h_saved a_h_ad g16 g17, B_e cI cM a_e a_e_temporaries a_e_arguments e_counter e_temporaries e_arguments, B_g cI cM a_g a_g_kinds a_g_positions g11 g12 g13 g14, hW cI cM a_h_ad g18]) SS hKK (qX3_remember l D cI cM a_h a_h_saved a_o a_t a_t_supertypes a_m a_m_type a_m_name a_m_arity a_m_keys a_m_defaults a_k a_k_staticType a_k_dynamicType a_k_target a_k_argumentCounts a_k_temporaryCounts a_k_keys a_k_kinds a_k_values a_k_temporaryKinds a_k_newKinds a_k_newValues a_h_ad h_count h_next t_count t_interfaceSet t_supertypes m_count m_type m_name m_arity m_keys m_defaults k_count k_frozenSet k_staticType k_dynamicType k_target k_argumentCounts k_temporaryCounts k_keys k_kinds k_values k_temporaryKinds k_newKinds k_newValues h_hs g16 g17 g18 eg16) cw246 hP hD hS (isC := [6, 1, 2, 3, 4, 9]) (isR := [0, 5, 7, 8]) (C0 := [B_h cI cM a_h a_h_saved a_h_ad h_count h_next, B_o cI cM a_o a_t a_m a_k , B_t cI cM a_t a_t_supertypes t_count t_interfaceSet t_supertypes, B_m cI cM a_m a_m_type a_m_name a_m_arity a_m_keys a_m_defaults m_count m_type m_name m_arity m_keys m_defaults, B_k cI cM a_k a_k_staticType a_k_dynamicType a_k_target a_k_argumentCounts a_k_temporaryCounts a_k_keys a_k_kinds a_k_values a_k_temporaryKinds a_k_newKinds a_k_newValues k_count k_frozenSet k_staticType k_dynamicType k_target k_argumentCounts k_temporaryCounts k_keys k_kinds k_values k_temporaryKinds k_newKinds k_newValues, hW cI cM a_h_ad h_hs]) (C1 := [B_h cI cM a_h a_h_saved a_h_ad g16 g17, B_o cI cM a_o a_t a_m a_k , B_t cI cM a_t a_t_supertypes t_count t_interfaceSet t_supertypes, B_m cI cM a_m a_m_type a_m_name a_m_arity a_m_keys a_m_defaults m_count m_type m_name m_arity m_keys m_defaults, B_k cI cM a_k a_k_staticType a_k_dynamicType a_k_target a_k_argumentCounts a_k_temporaryCounts a_k_keys a_k_kinds a_k_values a_k_temporaryKinds a_k_newKinds a_k_newValues k_count k_frozenSet k_staticType k_dynamicType k_target k_argumentCounts k_temporaryCounts k_keys k_kinds k_values k_temporaryKinds k_newKinds k_newValues, hW cI cM a_h_ad g18]) (Rr := [B_x cI cM a_x a_x_hoistedOfCall a_o a_d a_h a_e a_g g10, B_d cI cM a_d a_d_sources a_d_keys a_d_defaults d_open d_method d_family d_oldCount d_keptSet d_count d_sources d_keys d_defaults d_usedKeys, B_e cI cM a_e a_e_temporaries a_e_arguments e_counter e_temporaries e_arguments, B_g cI cM a_g a_g_kinds a_g_positions g11 g12 g13 g14]) (show (List.range 10).Perm ([6, 1, 2, 3, 4, 9] ++ [0, 5, 7, 8]) by decide) rfl rfl rfl rfl rfl rfl rfl (hW_addr rfl) 0 3 rfl rfl rfl hl.1 rfl (Nat.le_of_ble_eq_true rfl) dX8_applyChange_60 ⟨Nat.zero_le _, Nat.zero_le _⟩ rfl (fun H locs hP hD hS => ?_)
          have hP : va_P D vwCl (W_x_o_t_m_k_d_h_e_g cI cM a_x a_x_hoistedOfCall a_o a_t a_t_supertypes a_m a_m_type a_m_name a_m_arity a_m_keys a_m_defaults a_k a_k_staticType a_k_dynamicType a_k_target a_k_argumentCounts a_k_temporaryCounts a_k_keys a_k_kinds a_k_values a_k_temporaryKinds a_k_newKinds a_k_newValues a_d a_d_sources a_d_keys a_d_defaults a_h a_h_saved a_e a_e_temporaries a_e_arguments a_g a_g_kinds a_g_positions a_h_ad g10 t_count t_interfaceSet t_supertypes m_count m_type m_name m_arity m_keys m_defaults k_count k_frozenSet k_staticType k_dynamicType k_target k_argumentCounts k_temporaryCounts k_keys k_kinds k_values k_temporaryKinds k_newKinds k_newValues d_open d_method d_family d_oldCount d_keptSet d_count d_sources d_keys d_defaults d_usedKeys g16 g17 e_counter e_temporaries e_arguments g11 g12 g13 g14 ++ hW cI cM a_h_ad g18) H := hP
          have hD : va_D _ (W_x_o_t_m_k_d_h_e_g cI cM a_x a_x_hoistedOfCall a_o a_t a_t_supertypes a_m a_m_type a_m_name a_m_arity a_m_keys a_m_defaults a_k a_k_staticType a_k_dynamicType a_k_target a_k_argumentCounts a_k_temporaryCounts a_k_keys a_k_kinds a_k_values a_k_temporaryKinds a_k_newKinds a_k_newValues a_d a_d_sources a_d_keys a_d_defaults a_h a_h_saved a_e a_e_temporaries a_e_arguments a_g a_g_kinds a_g_positions a_h_ad g10 t_count t_interfaceSet t_supertypes m_count m_type m_name m_arity m_keys m_defaults k_count k_frozenSet k_staticType k_dynamicType k_target k_argumentCounts k_temporaryCounts k_keys k_kinds k_values k_temporaryKinds k_newKinds k_newValues d_open d_method d_family d_oldCount d_keptSet d_count d_sources d_keys d_defaults d_usedKeys g16 g17 e_counter e_temporaries e_arguments g11 g12 g13 g14 ++ hW cI cM a_h_ad g18) := hD
          refine lv_aload_n hx hb dX8_applyChange_63 rfl (lv_at hl 1 rfl) ?_
          refine va_get (D := D) (ci := 8) (v := .ref a_o) (C := RX8) (T := TX8) (N := 6) hx hb hts hinX8 hown hKK.1 hP 0 rfl rfl 0 (by decide) lk10 (fun _ h9 => h9) rfl dX8_applyChange_64 ?_
          refine va_get (D := D) (ci := 6) (v := .ref a_k) (C := RX6) (T := TX6) (N := 3) hx hb hts hinX6 hown hKK.1 hP 2 rfl rfl 2 (by decide) lk124 (fun _ h9 => h9) rfl dX8_applyChange_67 ?_
          refine lv_iload_n hx hb dX8_applyChange_70 rfl (lv_at hl 0 rfl) ?_
          refine lv_aload_n hx hb dX8_applyChange_71 rfl (lv_at hl 1 rfl) ?_
          refine va_get (D := D) (ci := 8) (v := .ref a_x_hoistedOfCall) (C := RX8) (T := TX8) (N := 6) hx hb hts hinX8 hown hKK.1 hP 0 rfl rfl 5 (by decide) lk44 (fun _ h9 => h9) rfl dX8_applyChange_72 ?_
          refine lv_aload_n hx hb dX8_applyChange_75 rfl (lv_at hl 1 rfl) ?_
          refine va_get (D := D) (ci := 8) (v := .ref a_d) (C := RX8) (T := TX8) (N := 6) hx hb hts hinX8 hown hKK.1 hP 0 rfl rfl 1 (by decide) lk19 (fun _ h9 => h9) rfl dX8_applyChange_76 ?_
          obtain ⟨g19, g20, g21, g22, g23, g24, g25, g26, eg19, h⟩ := bn8_some h
          refine kVI (As := [.int v8, .ref a_x_hoistedOfCall, .ref a_d]) (rest := []) (st1 := []) SS hKK (qX0_rewrite l D cI cM a_k a_k_staticType a_k_dynamicType a_k_target a_k_argumentCounts a_k_temporaryCounts a_k_keys a_k_kinds a_k_values a_k_temporaryKinds a_k_newKinds a_k_newValues a_x_hoistedOfCall a_d a_d_sources a_d_keys a_d_defaults k_count k_frozenSet k_staticType k_dynamicType k_target k_argumentCounts k_temporaryCounts k_keys k_kinds k_values k_temporaryKinds k_newKinds k_newValues g10 d_open d_method d_family d_oldCount d_keptSet d_count d_sources d_keys d_defaults d_usedKeys v8 g19 g20 g21 g22 g23 g24 g25 g26 eg19) cw250 hP hD hS [11, 12, 13, 14, 15, 16, 17, 18, 19, 20, 21, 22, 1, 23, 24, 25, 26] rfl rfl rfl rfl 0 0 rfl rfl rfl hl.1 rfl (Nat.le_of_ble_eq_true rfl) dX8_applyChange_79 ⟨Nat.zero_le _, Nat.zero_le _⟩ rfl (fun H locs hP hD hS => ?_)
          have hP : va_P D vwCl (W_x_o_t_m_k_d_h_e_g cI cM a_x a_x_hoistedOfCall a_o a_t a_t_supertypes a_m a_m_type a_m_name a_m_arity a_m_keys a_m_defaults a_k a_k_staticType a_k_dynamicType a_k_target a_k_argumentCounts a_k_temporaryCounts a_k_keys a_k_kinds a_k_values a_k_temporaryKinds a_k_newKinds a_k_newValues a_d a_d_sources a_d_keys a_d_defaults a_h a_h_saved a_e a_e_temporaries a_e_arguments a_g a_g_kinds a_g_positions a_h_ad g10 t_count t_interfaceSet t_supertypes m_count m_type m_name m_arity m_keys m_defaults k_count k_frozenSet k_staticType k_dynamicType k_target g19 g20 g21 g22 g23 g24 g25 g26 d_open d_method d_family d_oldCount d_keptSet d_count d_sources d_keys d_defaults d_usedKeys g16 g17 e_counter e_temporaries e_arguments g11 g12 g13 g14 ++ hW cI cM a_h_ad g18) H := hP
          have hD : va_D _ (W_x_o_t_m_k_d_h_e_g cI cM a_x a_x_hoistedOfCall a_o a_t a_t_supertypes a_m a_m_type a_m_name a_m_arity a_m_keys a_m_defaults a_k a_k_staticType a_k_dynamicType a_k_target a_k_argumentCounts a_k_temporaryCounts a_k_keys a_k_kinds a_k_values a_k_temporaryKinds a_k_newKinds a_k_newValues a_d a_d_sources a_d_keys a_d_defaults a_h a_h_saved a_e a_e_temporaries a_e_arguments a_g a_g_kinds a_g_positions a_h_ad g10 t_count t_interfaceSet t_supertypes m_count m_type m_name m_arity m_keys m_defaults k_count k_frozenSet k_staticType k_dynamicType k_target g19 g20 g21 g22 g23 g24 g25 g26 d_open d_method d_family d_oldCount d_keptSet d_count d_sources d_keys d_defaults d_usedKeys g16 g17 e_counter e_temporaries e_arguments g11 g12 g13 g14 ++ hW cI cM a_h_ad g18) := hD
          refine lv_aload_n hx hb dX8_applyChange_82 rfl (lv_at hl 1 rfl) ?_
          refine va_get (D := D) (ci := 8) (v := .ref a_o) (C := RX8) (T := TX8) (N := 6) hx hb hts hinX8 hown hKK.1 hP 0 rfl rfl 0 (by decide) lk10 (fun _ h9 => h9) rfl dX8_applyChange_83 ?_
          refine va_get (D := D) (ci := 6) (v := .ref a_m) (C := RX6) (T := TX6) (N := 3) hx hb hts hinX6 hown hKK.1 hP 2 rfl rfl 1 (by decide) lk66 (fun _ h9 => h9) rfl dX8_applyChange_86 ?_
          refine lv_aload_n hx hb dX8_applyChange_89 rfl (lv_at hl 1 rfl) ?_
          refine va_get (D := D) (ci := 8) (v := .ref a_d) (C := RX8) (T := TX8) (N := 6) hx hb hts hinX8 hown hKK.1 hP 0 rfl rfl 1 (by decide) lk19 (fun _ h9 => h9) rfl dX8_applyChange_90 ?_
          obtain ⟨g27, g28, g29, eg27, h⟩ := bn3_some h
          refine kVB (As := [.ref a_d]) (rest := []) (st1 := []) (Bs := [B_x cI cM a_x a_x_hoistedOfCall a_o a_d a_h a_e a_g g10, B_o cI cM a_o a_t a_m a_k , B_t cI cM a_t a_t_supertypes t_count t_interfaceSet t_supertypes, B_m cI cM a_m a_m_type a_m_name a_m_arity a_m_keys a_m_defaults m_count m_type m_name m_arity m_keys m_defaults, B_k cI cM a_k a_k_staticType a_k_dynamicType a_k_target a_k_argumentCounts a_k_temporaryCounts a_k_keys a_k_kinds a_k_values a_k_temporaryKinds a_k_newKinds a_k_newValues k_count k_frozenSet k_staticType k_dynamicType k_target g19 g20 g21 g22 g23 g24 g25 g26, B_d cI cM a_d a_d_sources a_d_keys a_d_defaults d_open d_method d_family d_oldCount d_keptSet d_count d_sources d_keys d_defaults d_usedKeys, B_h cI cM a_h a_h_saved a_h_ad g16 g17, B_e cI cM a_e a_e_temporaries a_e_arguments e_counter e_temporaries e_arguments, B_g cI cM a_g a_g_kinds a_g_positions g11 g12 g13 g14, hW cI cM a_h_ad g18]) (Bs1 := [B_x cI cM a_x a_x_hoistedOfCall a_o a_d a_h a_e a_g g10, B_o cI cM a_o a_t a_m a_k , B_t cI cM a_t a_t_supertypes t_count t_interfaceSet t_supertypes, B_m cI cM a_m a_m_type a_m_name a_m_arity a_m_keys a_m_defaults m_count m_type m_name g27 g28 g29, B_k cI cM a_k a_k_staticType a_k_dynamicType a_k_target a_k_argumentCounts a_k_temporaryCounts a_k_keys a_k_kinds a_k_values a_k_temporaryKinds a_k_newKinds a_k_newValues k_count k_frozenSet k_staticType k_dynamicType k_target g19 g20 g21 g22 g23 g24 g25 g26, B_d cI cM a_d a_d_sources a_d_keys a_d_defaults d_open d_method d_family d_oldCount d_keptSet d_count d_sources d_keys d_defaults d_usedKeys, B_h cI cM a_h a_h_saved a_h_ad g16 g17, B_e cI cM a_e a_e_temporaries a_e_arguments e_counter e_temporaries e_arguments, B_g cI cM a_g a_g_kinds a_g_positions g11 g12 g13 g14, hW cI cM a_h_ad g18]) SS hKK (qX5_replaceParameters l D cI cM a_m a_m_type a_m_name a_m_arity a_m_keys a_m_defaults a_d a_d_sources a_d_keys a_d_defaults m_count m_type m_name m_arity m_keys m_defaults d_open d_method d_family d_oldCount d_keptSet d_count d_sources d_keys d_defaults d_usedKeys g27 g28 g29 eg27) cw254 hP hD hS (isC := [3, 5]) (isR := [0, 1, 2, 4, 6, 7, 8, 9]) (C0 := [B_m cI cM a_m a_m_type a_m_name a_m_arity a_m_keys a_m_defaults m_count m_type m_name m_arity m_keys m_defaults, B_d cI cM a_d a_d_sources a_d_keys a_d_defaults d_open d_method d_family d_oldCount d_keptSet d_count d_sources d_keys d_defaults d_usedKeys]) (C1 := [B_m cI cM a_m a_m_type a_m_name a_m_arity a_m_keys a_m_defaults m_count m_type m_name g27 g28 g29, B_d cI cM a_d a_d_sources a_d_keys a_d_defaults d_open d_method d_family d_oldCount d_keptSet d_count d_sources d_keys d_defaults d_usedKeys]) (Rr := [B_x cI cM a_x a_x_hoistedOfCall a_o a_d a_h a_e a_g g10, B_o cI cM a_o a_t a_m a_k , B_t cI cM a_t a_t_supertypes t_count t_interfaceSet t_supertypes, B_k cI cM a_k a_k_staticType a_k_dynamicType a_k_target a_k_argumentCounts a_k_temporaryCounts a_k_keys a_k_kinds a_k_values a_k_temporaryKinds a_k_newKinds a_k_newValues k_count k_frozenSet k_staticType k_dynamicType k_target g19 g20 g21 g22 g23 g24 g25 g26, B_h cI cM a_h a_h_saved a_h_ad g16 g17, B_e cI cM a_e a_e_temporaries a_e_arguments e_counter e_temporaries e_arguments, B_g cI cM a_g a_g_kinds a_g_positions g11 g12 g13 g14, hW cI cM a_h_ad g18]) (show (List.range 10).Perm ([3, 5] ++ [0, 1, 2, 4, 6, 7, 8, 9]) by decide) rfl rfl rfl rfl rfl rfl rfl rfl 0 5 rfl rfl rfl hl.1 rfl (Nat.le_of_ble_eq_true rfl) dX8_applyChange_93 ⟨Nat.zero_le _, Nat.zero_le _⟩ rfl (fun H locs hP hD hS => ?_)
          have hP : va_P D vwCl (W_x_o_t_m_k_d_h_e_g cI cM a_x a_x_hoistedOfCall a_o a_t a_t_supertypes a_m a_m_type a_m_name a_m_arity a_m_keys a_m_defaults a_k a_k_staticType a_k_dynamicType a_k_target a_k_argumentCounts a_k_temporaryCounts a_k_keys a_k_kinds a_k_values a_k_temporaryKinds a_k_newKinds a_k_newValues a_d a_d_sources a_d_keys a_d_defaults a_h a_h_saved a_e a_e_temporaries a_e_arguments a_g a_g_kinds a_g_positions a_h_ad g10 t_count t_interfaceSet t_supertypes m_count m_type m_name g27 g28 g29 k_count k_frozenSet k_staticType k_dynamicType k_target g19 g20 g21 g22 g23 g24 g25 g26 d_open d_method d_family d_oldCount d_keptSet d_count d_sources d_keys d_defaults d_usedKeys g16 g17 e_counter e_temporaries e_arguments g11 g12 g13 g14 ++ hW cI cM a_h_ad g18) H := hP
          have hD : va_D _ (W_x_o_t_m_k_d_h_e_g cI cM a_x a_x_hoistedOfCall a_o a_t a_t_supertypes a_m a_m_type a_m_name a_m_arity a_m_keys a_m_defaults a_k a_k_staticType a_k_dynamicType a_k_target a_k_argumentCounts a_k_temporaryCounts a_k_keys a_k_kinds a_k_values a_k_temporaryKinds a_k_newKinds a_k_newValues a_d a_d_sources a_d_keys a_d_defaults a_h a_h_saved a_e a_e_temporaries a_e_arguments a_g a_g_kinds a_g_positions a_h_ad g10 t_count t_interfaceSet t_supertypes m_count m_type m_name g27 g28 g29 k_count k_frozenSet k_staticType k_dynamicType k_target g19 g20 g21 g22 g23 g24 g25 g26 d_open d_method d_family d_oldCount d_keptSet d_count d_sources d_keys d_defaults d_usedKeys g16 g17 e_counter e_temporaries e_arguments g11 g12 g13 g14 ++ hW cI cM a_h_ad g18) := hD
          refine lv_aload_n hx hb dX8_applyChange_96 rfl (lv_at hl 1 rfl) ?_
          refine va_get (D := D) (ci := 8) (v := .ref a_d) (C := RX8) (T := TX8) (N := 6) hx hb hts hinX8 hown hKK.1 hP 0 rfl rfl 1 (by decide) lk19 (fun _ h9 => h9) rfl dX8_applyChange_97 ?_
          obtain ⟨g30, eg30, h⟩ := bn_some h
          refine kVB (As := []) (rest := []) (st1 := []) (Bs := [B_x cI cM a_x a_x_hoistedOfCall a_o a_d a_h a_e a_g g10, B_o cI cM a_o a_t a_m a_k , B_t cI cM a_t a_t_supertypes t_count t_interfaceSet t_supertypes, B_m cI cM a_m a_m_type a_m_name a_m_arity a_m_keys a_m_defaults m_count m_type m_name g27 g28 g29, B_k cI cM a_k a_k_staticType a_k_dynamicType a_k_target a_k_argumentCounts a_k_temporaryCounts a_k_keys a_k_kinds a_k_values a_k_temporaryKinds a_k_newKinds a_k_newValues k_count k_frozenSet k_staticType k_dynamicType k_target g19 g20 g21 g22 g23 g24 g25 g26, B_d cI cM a_d a_d_sources a_d_keys a_d_defaults d_open d_method d_family d_oldCount d_keptSet d_count d_sources d_keys d_defaults d_usedKeys, B_h cI cM a_h a_h_saved a_h_ad g16 g17, B_e cI cM a_e a_e_temporaries a_e_arguments e_counter e_temporaries e_arguments, B_g cI cM a_g a_g_kinds a_g_positions g11 g12 g13 g14, hW cI cM a_h_ad g18]) (Bs1 := [B_x cI cM a_x a_x_hoistedOfCall a_o a_d a_h a_e a_g g10, B_o cI cM a_o a_t a_m a_k , B_t cI cM a_t a_t_supertypes t_count t_interfaceSet t_supertypes, B_m cI cM a_m a_m_type a_m_name a_m_arity a_m_keys a_m_defaults m_count m_type m_name g27 g28 g29, B_k cI cM a_k a_k_staticType a_k_dynamicType a_k_target a_k_argumentCounts a_k_temporaryCounts a_k_keys a_k_kinds a_k_values a_k_temporaryKinds a_k_newKinds a_k_newValues k_count k_frozenSet k_staticType k_dynamicType k_target g19 g20 g21 g22 g23 g24 g25 g26, B_d cI cM a_d a_d_sources a_d_keys a_d_defaults g30 d_method d_family d_oldCount d_keptSet d_count d_sources d_keys d_defaults d_usedKeys, B_h cI cM a_h a_h_saved a_h_ad g16 g17, B_e cI cM a_e a_e_temporaries a_e_arguments e_counter e_temporaries e_arguments, B_g cI cM a_g a_g_kinds a_g_positions g11 g12 g13 g14, hW cI cM a_h_ad g18]) SS hKK (qX1_close l D cI cM a_d a_d_sources a_d_keys a_d_defaults d_open d_method d_family d_oldCount d_keptSet d_count d_sources d_keys d_defaults d_usedKeys g30 eg30) cw258 hP hD hS (isC := [5]) (isR := [0, 1, 2, 3, 4, 6, 7, 8, 9]) (C0 := [B_d cI cM a_d a_d_sources a_d_keys a_d_defaults d_open d_method d_family d_oldCount d_keptSet d_count d_sources d_keys d_defaults d_usedKeys]) (C1 := [B_d cI cM a_d a_d_sources a_d_keys a_d_defaults g30 d_method d_family d_oldCount d_keptSet d_count d_sources d_keys d_defaults d_usedKeys]) (Rr := [B_x cI cM a_x a_x_hoistedOfCall a_o a_d a_h a_e a_g g10, B_o cI cM a_o a_t a_m a_k , B_t cI cM a_t a_t_supertypes t_count t_interfaceSet t_supertypes, B_m cI cM a_m a_m_type a_m_name a_m_arity a_m_keys a_m_defaults m_count m_type m_name g27 g28 g29, B_k cI cM a_k a_k_staticType a_k_dynamicType a_k_target a_k_argumentCounts a_k_temporaryCounts a_k_keys a_k_kinds a_k_values a_k_temporaryKinds a_k_newKinds a_k_newValues k_count k_frozenSet k_staticType k_dynamicType k_target g19 g20 g21 g22 g23 g24 g25 g26, B_h cI cM a_h a_h_saved a_h_ad g16 g17, B_e cI cM a_e a_e_temporaries a_e_arguments e_counter e_temporaries e_arguments, B_g cI cM a_g a_g_kinds a_g_positions g11 g12 g13 g14, hW cI cM a_h_ad g18]) (show (List.range 10).Perm ([5] ++ [0, 1, 2, 3, 4, 6, 7, 8, 9]) by decide) rfl rfl rfl rfl rfl rfl rfl rfl 0 1 rfl rfl rfl hl.1 rfl (Nat.le_of_ble_eq_true rfl) dX8_applyChange_100 ⟨Nat.zero_le _, Nat.zero_le _⟩ rfl (fun H locs hP hD hS => ?_)
          have hP : va_P D vwCl (W_x_o_t_m_k_d_h_e_g cI cM a_x a_x_hoistedOfCall a_o a_t a_t_supertypes a_m a_m_type a_m_name a_m_arity a_m_keys a_m_defaults a_k a_k_staticType a_k_dynamicType a_k_target a_k_argumentCounts a_k_temporaryCounts a_k_keys a_k_kinds a_k_values a_k_temporaryKinds a_k_newKinds a_k_newValues a_d a_d_sources a_d_keys a_d_defaults a_h a_h_saved a_e a_e_temporaries a_e_arguments a_g a_g_kinds a_g_positions a_h_ad g10 t_count t_interfaceSet t_supertypes m_count m_type m_name g27 g28 g29 k_count k_frozenSet k_staticType k_dynamicType k_target g19 g20 g21 g22 g23 g24 g25 g26 g30 d_method d_family d_oldCount d_keptSet d_count d_sources d_keys d_defaults d_usedKeys g16 g17 e_counter e_temporaries e_arguments g11 g12 g13 g14 ++ hW cI cM a_h_ad g18) H := hP
          have hD : va_D _ (W_x_o_t_m_k_d_h_e_g cI cM a_x a_x_hoistedOfCall a_o a_t a_t_supertypes a_m a_m_type a_m_name a_m_arity a_m_keys a_m_defaults a_k a_k_staticType a_k_dynamicType a_k_target a_k_argumentCounts a_k_temporaryCounts a_k_keys a_k_kinds a_k_values a_k_temporaryKinds a_k_newKinds a_k_newValues a_d a_d_sources a_d_keys a_d_defaults a_h a_h_saved a_e a_e_temporaries a_e_arguments a_g a_g_kinds a_g_positions a_h_ad g10 t_count t_interfaceSet t_supertypes m_count m_type m_name g27 g28 g29 k_count k_frozenSet k_staticType k_dynamicType k_target g19 g20 g21 g22 g23 g24 g25 g26 g30 d_method d_family d_oldCount d_keptSet d_count d_sources d_keys d_defaults d_usedKeys g16 g17 e_counter e_temporaries e_arguments g11 g12 g13 g14 ++ hW cI cM a_h_ad g18) := hD
          refine lv_iload_n hx hb dX8_applyChange_103 rfl (lv_at hl 0 rfl) ?_
          obtain ⟨v31, ev31, h⟩ := bn_some h
          refine kS (As := [.int v8]) (rest := []) SS hKK (qJ6_bitCount_0f7a4 l D cI cM v8 v31 ev31) cw158 va_P_nil rfl hl.1 rfl (Nat.le_of_ble_eq_true rfl) dX8_applyChange_104 ⟨Nat.zero_le _, Nat.zero_le _⟩ ?_
          simp only [Option.some.injEq, Prod.mk.injEq] at h
          obtain ⟨e0, e1, e2, e3, e4, e5, e6, e7, e8, e9, e10, e11, e12, e13, e14, e15, e16, e17, e18, e19, e20⟩ := h
          exact kRetI hx hb hr hlk e0 (by rw [← hw1, ← e1, ← e2, ← e3, ← e4, ← e5, ← e6, ← e7, ← e8, ← e9, ← e10, ← e11, ← e12, ← e13, ← e14, ← e15, ← e16, ← e17, ← e18, ← e19, ← e20]; exact hP) hS dX8_applyChange_107
        · have h := ifp h c15
          refine lv_bipush (v := (-3)) hx hb dX8_applyChange_49 (by decide) ?_
          simp only [Option.some.injEq, Prod.mk.injEq] at h
          obtain ⟨e0, e1, e2, e3, e4, e5, e6, e7, e8, e9, e10, e11, e12, e13, e14, e15, e16, e17, e18, e19, e20⟩ := h
          exact kRetI hx hb hr hlk e0 (by rw [← hw1, ← e1, ← e2, ← e3, ← e4, ← e5, ← e6, ← e7, ← e8, ← e9, ← e10, ← e11, ← e12, ← e13, ← e14, ← e15, ← e16, ← e17, ← e18, ← e19, ← e20]; exact hP) hS dX8_applyChange_51
      · have h := ifn h c7
        refine lv_bipush (v := (-2)) hx hb dX8_applyChange_33 (by decide) ?_
        simp only [Option.some.injEq, Prod.mk.injEq] at h
        obtain ⟨e0, e1, e2, e3, e4, e5, e6, e7, e8, e9, e10, e11, e12, e13, e14, e15, e16, e17, e18, e19, e20⟩ := h
        exact kRetI hx hb hr hlk e0 (by rw [← hw1, ← e1, ← e2, ← e3, ← e4, ← e5, ← e6, ← e7, ← e8, ← e9, ← e10, ← e11, ← e12, ← e13, ← e14, ← e15, ← e16, ← e17, ← e18, ← e19, ← e20]; exact hP) hS dX8_applyChange_35
set_option maxHeartbeats 8000000 in
set_option maxRecDepth 100000 in
theorem qX8_undo (l : Launch) (D : va_G) (cI cM : ClassId) (a_x a_x_hoistedOfCall a_o a_t a_t_supertypes a_m a_m_type a_m_name a_m_arity a_m_keys a_m_defaults a_k a_k_staticType a_k_dynamicType a_k_target a_k_argumentCounts a_k_temporaryCounts a_k_keys a_k_kinds a_k_values a_k_temporaryKinds a_k_newKinds a_k_newValues a_d a_d_sources a_d_keys a_d_defaults a_h a_h_saved a_e a_e_temporaries a_e_arguments a_g a_g_kinds a_g_positions : Nat) (a_h_ad : Nat → Nat → Nat) (x_hoistedOfCall : Nat → Int32) (t_count : Int32) (t_interfaceSet : Int32) (t_supertypes : Nat → Int32) (m_count : Int32) (m_type : Nat → Int32) (m_name : Nat → Int32) (m_arity : Nat → Int32) (m_keys : Nat → Int32) (m_defaults : Nat → Int32) (k_count : Int32) (k_frozenSet : Int32) (k_staticType : Nat → Int32) (k_dynamicType : Nat → Int32) (k_target : Nat → Int32) (k_argumentCounts : Nat → Int32) (k_temporaryCounts : Nat → Int32) (k_keys : Nat → Int32) (k_kinds : Nat → Int32) (k_values : Nat → Int32) (k_temporaryKinds : Nat → Int32) (k_newKinds : Nat → Int32) (k_newValues : Nat → Int32) (d_open : Int32) (d_method : Int32) (d_family : Int32) (d_oldCount : Int32) (d_keptSet : Int32) (d_count : Int32) (d_sources : Nat → Int32) (d_keys : Nat → Int32) (d_defaults : Nat → Int32) (d_usedKeys : Int32) (h_count : Int32) (h_next : Int32) (e_counter : Int32) (e_temporaries : Nat → Int32) (e_arguments : Nat → Int32) (g_count : Int32) (g_kept : Int32) (g_kinds : Nat → Int32) (g_positions : Nat → Int32) (h_hs : Nat → MS) (r : Int32) (r_t_count : Int32) (r_t_interfaceSet : Int32) (r_t_supertypes : Nat → Int32) (r_m_count : Int32) (r_m_type : Nat → Int32) (r_m_name : Nat → Int32) (r_m_arity : Nat → Int32) (r_m_keys : Nat → Int32) (r_m_defaults : Nat → Int32) (r_k_count : Int32) (r_k_frozenSet : Int32) (r_k_staticType : Nat → Int32) (r_k_dynamicType : Nat → Int32) (r_k_target : Nat → Int32) (r_k_argumentCounts : Nat → Int32) (r_k_temporaryCounts : Nat → Int32) (r_k_keys : Nat → Int32) (r_k_kinds : Nat → Int32) (r_k_values : Nat → Int32) (r_k_temporaryKinds : Nat → Int32) (r_d_open : Int32) (r_h_count : Int32) (r_h_next : Int32) (h : fX8_undo t_count t_interfaceSet t_supertypes m_count m_type m_name m_arity m_keys m_defaults k_count k_frozenSet k_staticType k_dynamicType k_target k_argumentCounts k_temporaryCounts k_keys k_kinds k_values k_temporaryKinds k_newKinds k_newValues d_open h_count h_next h_hs = some (r, r_t_count, r_t_interfaceSet, r_t_supertypes, r_m_count, r_m_type, r_m_name, r_m_arity, r_m_keys, r_m_defaults, r_k_count, r_k_frozenSet, r_k_staticType, r_k_dynamicType, r_k_target, r_k_argumentCounts, r_k_temporaryCounts, r_k_keys, r_k_kinds, r_k_values, r_k_temporaryKinds, r_d_open, r_h_count, r_h_next)) : IM l yX8_undo wsX8_undo rmX8_undo D cI cM [.ref a_x] (W_x_o_t_m_k_d_h_e_g cI cM a_x a_x_hoistedOfCall a_o a_t a_t_supertypes a_m a_m_type a_m_name a_m_arity a_m_keys a_m_defaults a_k a_k_staticType a_k_dynamicType a_k_target a_k_argumentCounts a_k_temporaryCounts a_k_keys a_k_kinds a_k_values a_k_temporaryKinds a_k_newKinds a_k_newValues a_d a_d_sources a_d_keys a_d_defaults a_h a_h_saved a_e a_e_temporaries a_e_arguments a_g a_g_kinds a_g_positions a_h_ad x_hoistedOfCall t_count t_interfaceSet t_supertypes m_count m_type m_name m_arity m_keys m_defaults k_count k_frozenSet k_staticType k_dynamicType k_target k_argumentCounts k_temporaryCounts k_keys k_kinds k_values k_temporaryKinds k_newKinds k_newValues d_open d_method d_family d_oldCount d_keptSet d_count d_sources d_keys d_defaults d_usedKeys h_count h_next e_counter e_temporaries e_arguments g_count g_kept g_kinds g_positions ++ hW cI cM a_h_ad h_hs) (W_x_o_t_m_k_d_h_e_g cI cM a_x a_x_hoistedOfCall a_o a_t a_t_supertypes a_m a_m_type a_m_name a_m_arity a_m_keys a_m_defaults a_k a_k_staticType a_k_dynamicType a_k_target a_k_argumentCounts a_k_temporaryCounts a_k_keys a_k_kinds a_k_values a_k_temporaryKinds a_k_newKinds a_k_newValues a_d a_d_sources a_d_keys a_d_defaults a_h a_h_saved a_e a_e_temporaries a_e_arguments a_g a_g_kinds a_g_positions a_h_ad x_hoistedOfCall r_t_count r_t_interfaceSet r_t_supertypes r_m_count r_m_type r_m_name r_m_arity r_m_keys r_m_defaults r_k_count r_k_frozenSet r_k_staticType r_k_dynamicType r_k_target r_k_argumentCounts r_k_temporaryCounts r_k_keys r_k_kinds r_k_values r_k_temporaryKinds k_newKinds k_newValues r_d_open d_method d_family d_oldCount d_keptSet d_count d_sources d_keys d_defaults d_usedKeys r_h_count r_h_next e_counter e_temporaries e_arguments g_count g_kept g_kinds g_positions ++ hW cI cM a_h_ad h_hs) (some (.int r)) := by
  refine IM.of (cc := cX8_undo) (maxL := 1) (ret := (some .int)) (by decide) rfl (Nat.le_of_ble_eq_true rfl) ?_
  intro p e s m below meth c ls hx hb hr hml hown hts hlk hKK hP hD hS hl
  have hown : s.vm.findClass RX8 = some m.cls := hown
  have hl : lv_has ls 1 [(0, .ref a_x)] := hl
  generalize hav : ([.ref a_x] : List Value) = av at hts ⊢
  generalize hw1 : W_x_o_t_m_k_d_h_e_g cI cM a_x a_x_hoistedOfCall a_o a_t a_t_supertypes a_m a_m_type a_m_name a_m_arity a_m_keys a_m_defaults a_k a_k_staticType a_k_dynamicType a_k_target a_k_argumentCounts a_k_temporaryCounts a_k_keys a_k_kinds a_k_values a_k_temporaryKinds a_k_newKinds a_k_newValues a_d a_d_sources a_d_keys a_d_defaults a_h a_h_saved a_e a_e_temporaries a_e_arguments a_g a_g_kinds a_g_positions a_h_ad x_hoistedOfCall r_t_count r_t_interfaceSet r_t_supertypes r_m_count r_m_type r_m_name r_m_arity r_m_keys r_m_defaults r_k_count r_k_frozenSet r_k_staticType r_k_dynamicType r_k_target r_k_argumentCounts r_k_temporaryCounts r_k_keys r_k_kinds r_k_values r_k_temporaryKinds k_newKinds k_newValues r_d_open d_method d_family d_oldCount d_keptSet d_count d_sources d_keys d_defaults d_usedKeys r_h_count r_h_next e_counter e_temporaries e_arguments g_count g_kept g_kinds g_positions ++ hW cI cM a_h_ad h_hs = w1
  generalize hw0 : W_x_o_t_m_k_d_h_e_g cI cM a_x a_x_hoistedOfCall a_o a_t a_t_supertypes a_m a_m_type a_m_name a_m_arity a_m_keys a_m_defaults a_k a_k_staticType a_k_dynamicType a_k_target a_k_argumentCounts a_k_temporaryCounts a_k_keys a_k_kinds a_k_values a_k_temporaryKinds a_k_newKinds a_k_newValues a_d a_d_sources a_d_keys a_d_defaults a_h a_h_saved a_e a_e_temporaries a_e_arguments a_g a_g_kinds a_g_positions a_h_ad x_hoistedOfCall t_count t_interfaceSet t_supertypes m_count m_type m_name m_arity m_keys m_defaults k_count k_frozenSet k_staticType k_dynamicType k_target k_argumentCounts k_temporaryCounts k_keys k_kinds k_values k_temporaryKinds k_newKinds k_newValues d_open d_method d_family d_oldCount d_keptSet d_count d_sources d_keys d_defaults d_usedKeys h_count h_next e_counter e_temporaries e_arguments g_count g_kept g_kinds g_positions ++ hW cI cM a_h_ad h_hs = w0 at hD hS ⊢
  have hP : va_P D vwCl (W_x_o_t_m_k_d_h_e_g cI cM a_x a_x_hoistedOfCall a_o a_t a_t_supertypes a_m a_m_type a_m_name a_m_arity a_m_keys a_m_defaults a_k a_k_staticType a_k_dynamicType a_k_target a_k_argumentCounts a_k_temporaryCounts a_k_keys a_k_kinds a_k_values a_k_temporaryKinds a_k_newKinds a_k_newValues a_d a_d_sources a_d_keys a_d_defaults a_h a_h_saved a_e a_e_temporaries a_e_arguments a_g a_g_kinds a_g_positions a_h_ad x_hoistedOfCall t_count t_interfaceSet t_supertypes m_count m_type m_name m_arity m_keys m_defaults k_count k_frozenSet k_staticType k_dynamicType k_target k_argumentCounts k_temporaryCounts k_keys k_kinds k_values k_temporaryKinds k_newKinds k_newValues d_open d_method d_family d_oldCount d_keptSet d_count d_sources d_keys d_defaults d_usedKeys h_count h_next e_counter e_temporaries e_arguments g_count g_kept g_kinds g_positions ++ hW cI cM a_h_ad h_hs) s.heap := hP
  have hD : va_D (fun q => q ∈ w0.map (·.1)) (W_x_o_t_m_k_d_h_e_g cI cM a_x a_x_hoistedOfCall a_o a_t a_t_supertypes a_m a_m_type a_m_name a_m_arity a_m_keys a_m_defaults a_k a_k_staticType a_k_dynamicType a_k_target a_k_argumentCounts a_k_temporaryCounts a_k_keys a_k_kinds a_k_values a_k_temporaryKinds a_k_newKinds a_k_newValues a_d a_d_sources a_d_keys a_d_defaults a_h a_h_saved a_e a_e_temporaries a_e_arguments a_g a_g_kinds a_g_positions a_h_ad x_hoistedOfCall t_count t_interfaceSet t_supertypes m_count m_type m_name m_arity m_keys m_defaults k_count k_frozenSet k_staticType k_dynamicType k_target k_argumentCounts k_temporaryCounts k_keys k_kinds k_values k_temporaryKinds k_newKinds k_newValues d_open d_method d_family d_oldCount d_keptSet d_count d_sources d_keys d_defaults d_usedKeys h_count h_next e_counter e_temporaries e_arguments g_count g_kept g_kinds g_positions ++ hW cI cM a_h_ad h_hs) := by rw [hw0]; exact hD
  have SS : CallFix p m c cX8_undo 1 s av.toArray wsX8_undo RX8 := ⟨hx, hb, hml, hown, hts⟩
  have hinX3 : ∀ w ∈ u_ws RX3 TX3 3, w ∈ wsX8_undo := by decide +kernel
  have hinX8 : ∀ w ∈ u_ws RX8 TX8 6, w ∈ wsX8_undo := by decide +kernel
  have lk10 := hts (.fieldLink RX8 10 "SignatureChanger" "model" "LSignatureChanger$Model;") (List.mem_of_getElem? (i := 4) rfl)
  have lk19 := hts (.fieldLink RX8 19 "SignatureChanger" "draft" "LSignatureChanger$Draft;") (List.mem_of_getElem? (i := 3) rfl)
  have lk26 := hts (.fieldLink RX8 26 "SignatureChanger" "history" "LSignatureChanger$History;") (List.mem_of_getElem? (i := 1) rfl)
  have lk261 := hts (.fieldLink RX8 261 "SignatureChanger$History" "count" "I") (List.mem_of_getElem? (i := 2) rfl)
  have cw258 : CallW rmX8_undo s av.toArray RX8 RX1 258 yX1_close cX1_close 1 none wsX1_close rmX1_close 0 0 0 := cwV 0 hts gX8_undo_X1_close rfl rfl rfl (by decide +kernel) ⟨Nat.le_of_ble_eq_true rfl, Nat.le_of_ble_eq_true rfl⟩
  have cw262 : CallW rmX8_undo s av.toArray RX8 RX3 262 yX3_goBack cX3_goBack 2 (some .int) wsX3_goBack rmX3_goBack 0 0 1 := cwV 1 hts gX8_undo_X3_goBack rfl rfl rfl (by decide +kernel) ⟨Nat.le_of_ble_eq_true rfl, Nat.le_of_ble_eq_true rfl⟩
  unfold fX8_undo at h
  refine lv_aload_n hx hb dX8_undo_0 rfl (lv_at hl 0 rfl) ?_
  refine va_get (D := D) (ci := 8) (v := .ref a_h) (C := RX8) (T := TX8) (N := 6) hx hb hts hinX8 hown hKK.1 hP 0 rfl rfl 2 (by decide) lk26 (fun _ h9 => h9) rfl dX8_undo_1 ?_
  refine va_get (D := D) (ci := 3) (v := .int h_count) (C := RX3) (T := TX3) (N := 3) hx hb hts hinX3 hown hKK.1 hP 27 rfl rfl 0 (by decide) lk261 (fun _ h9 => h9) rfl dX8_undo_4 ?_
  refine lv_if_ne (tgt := 13) hx hb dX8_undo_7 (by decide) (fun c1 => ?_) (fun c1 => ?_)
  · have h := ifn h c1
    refine lv_aload_n hx hb dX8_undo_13 rfl (lv_at hl 0 rfl) ?_
    refine va_get (D := D) (ci := 8) (v := .ref a_d) (C := RX8) (T := TX8) (N := 6) hx hb hts hinX8 hown hKK.1 hP 0 rfl rfl 1 (by decide) lk19 (fun _ h9 => h9) rfl dX8_undo_14 ?_
    obtain ⟨g2, eg2, h⟩ := bn_some h
    refine kVB (As := []) (rest := []) (st1 := []) (Bs := [B_x cI cM a_x a_x_hoistedOfCall a_o a_d a_h a_e a_g x_hoistedOfCall, B_o cI cM a_o a_t a_m a_k , B_t cI cM a_t a_t_supertypes t_count t_interfaceSet t_supertypes, B_m cI cM a_m a_m_type a_m_name a_m_arity a_m_keys a_m_defaults m_count m_type m_name m_arity m_keys m_defaults, B_k cI cM a_k a_k_staticType a_k_dynamicType a_k_target a_k_argumentCounts a_k_temporaryCounts a_k_keys a_k_kinds a_k_values a_k_temporaryKinds a_k_newKinds a_k_newValues k_count k_frozenSet k_staticType k_dynamicType k_target k_argumentCounts k_temporaryCounts k_keys k_kinds k_values k_temporaryKinds k_newKinds k_newValues, B_d cI cM a_d a_d_sources a_d_keys a_d_defaults d_open d_method d_family d_oldCount d_keptSet d_count d_sources d_keys d_defaults d_usedKeys, B_h cI cM a_h a_h_saved a_h_ad h_count h_next, B_e cI cM a_e a_e_temporaries a_e_arguments e_counter e_temporaries e_arguments, B_g cI cM a_g a_g_kinds a_g_positions g_count g_kept g_kinds g_positions, hW cI cM a_h_ad h_hs]) (Bs1 := [B_x cI cM a_x a_x_hoistedOfCall a_o a_d a_h a_e a_g x_hoistedOfCall, B_o cI cM a_o a_t a_m a_k , B_t cI cM a_t a_t_supertypes t_count t_interfaceSet t_supertypes, B_m cI cM a_m a_m_type a_m_name a_m_arity a_m_keys a_m_defaults m_count m_type m_name m_arity m_keys m_defaults, B_k cI cM a_k a_k_staticType a_k_dynamicType a_k_target a_k_argumentCounts a_k_temporaryCounts a_k_keys a_k_kinds a_k_values a_k_temporaryKinds a_k_newKinds a_k_newValues k_count k_frozenSet k_staticType k_dynamicType k_target k_argumentCounts k_temporaryCounts k_keys k_kinds k_values k_temporaryKinds k_newKinds k_newValues, B_d cI cM a_d a_d_sources a_d_keys a_d_defaults g2 d_method d_family d_oldCount d_keptSet d_count d_sources d_keys d_defaults d_usedKeys, B_h cI cM a_h a_h_saved a_h_ad h_count h_next, B_e cI cM a_e a_e_temporaries a_e_arguments e_counter e_temporaries e_arguments, B_g cI cM a_g a_g_kinds a_g_positions g_count g_kept g_kinds g_positions, hW cI cM a_h_ad h_hs]) SS hKK (qX1_close l D cI cM a_d a_d_sources a_d_keys a_d_defaults d_open d_method d_family d_oldCount d_keptSet d_count d_sources d_keys d_defaults d_usedKeys g2 eg2) cw258 hP hD hS (isC := [5]) (isR := [0, 1, 2, 3, 4, 6, 7, 8, 9]) (C0 := [B_d cI cM a_d a_d_sources a_d_keys a_d_defaults d_open d_method d_family d_oldCount d_keptSet d_count d_sources d_keys d_defaults d_usedKeys]) (C1 := [B_d cI cM a_d a_d_sources a_d_keys a_d_defaults g2 d_method d_family d_oldCount d_keptSet d_count d_sources d_keys d_defaults d_usedKeys]) (Rr := [B_x cI cM a_x a_x_hoistedOfCall a_o a_d a_h a_e a_g x_hoistedOfCall, B_o cI cM a_o a_t a_m a_k , B_t cI cM a_t a_t_supertypes t_count t_interfaceSet t_supertypes, B_m cI cM a_m a_m_type a_m_name a_m_arity a_m_keys a_m_defaults m_count m_type m_name m_arity m_keys m_defaults, B_k cI cM a_k a_k_staticType a_k_dynamicType a_k_target a_k_argumentCounts a_k_temporaryCounts a_k_keys a_k_kinds a_k_values a_k_temporaryKinds a_k_newKinds a_k_newValues k_count k_frozenSet k_staticType k_dynamicType k_target k_argumentCounts k_temporaryCounts k_keys k_kinds k_values k_temporaryKinds k_newKinds k_newValues, B_h cI cM a_h a_h_saved a_h_ad h_count h_next, B_e cI cM a_e a_e_temporaries a_e_arguments e_counter e_temporaries e_arguments, B_g cI cM a_g a_g_kinds a_g_positions g_count g_kept g_kinds g_positions, hW cI cM a_h_ad h_hs]) (show (List.range 10).Perm ([5] ++ [0, 1, 2, 3, 4, 6, 7, 8, 9]) by decide) rfl rfl rfl rfl rfl rfl rfl rfl 0 1 rfl rfl rfl hl.1 rfl (Nat.le_of_ble_eq_true rfl) dX8_undo_17 ⟨Nat.zero_le _, Nat.zero_le _⟩ rfl (fun H locs hP hD hS => ?_)
    have hP : va_P D vwCl (W_x_o_t_m_k_d_h_e_g cI cM a_x a_x_hoistedOfCall a_o a_t a_t_supertypes a_m a_m_type a_m_name a_m_arity a_m_keys a_m_defaults a_k a_k_staticType a_k_dynamicType a_k_target a_k_argumentCounts a_k_temporaryCounts a_k_keys a_k_kinds a_k_values a_k_temporaryKinds a_k_newKinds a_k_newValues a_d a_d_sources a_d_keys a_d_defaults a_h a_h_saved a_e a_e_temporaries a_e_arguments a_g a_g_kinds a_g_positions a_h_ad x_hoistedOfCall t_count t_interfaceSet t_supertypes m_count m_type m_name m_arity m_keys m_defaults k_count k_frozenSet k_staticType k_dynamicType k_target k_argumentCounts k_temporaryCounts k_keys k_kinds k_values k_temporaryKinds k_newKinds k_newValues g2 d_method d_family d_oldCount d_keptSet d_count d_sources d_keys d_defaults d_usedKeys h_count h_next e_counter e_temporaries e_arguments g_count g_kept g_kinds g_positions ++ hW cI cM a_h_ad h_hs) H := hP
    have hD : va_D _ (W_x_o_t_m_k_d_h_e_g cI cM a_x a_x_hoistedOfCall a_o a_t a_t_supertypes a_m a_m_type a_m_name a_m_arity a_m_keys a_m_defaults a_k a_k_staticType a_k_dynamicType a_k_target a_k_argumentCounts a_k_temporaryCounts a_k_keys a_k_kinds a_k_values a_k_temporaryKinds a_k_newKinds a_k_newValues a_d a_d_sources a_d_keys a_d_defaults a_h a_h_saved a_e a_e_temporaries a_e_arguments a_g a_g_kinds a_g_positions a_h_ad x_hoistedOfCall t_count t_interfaceSet t_supertypes m_count m_type m_name m_arity m_keys m_defaults k_count k_frozenSet k_staticType k_dynamicType k_target k_argumentCounts k_temporaryCounts k_keys k_kinds k_values k_temporaryKinds k_newKinds k_newValues g2 d_method d_family d_oldCount d_keptSet d_count d_sources d_keys d_defaults d_usedKeys h_count h_next e_counter e_temporaries e_arguments g_count g_kept g_kinds g_positions ++ hW cI cM a_h_ad h_hs) := hD
    refine lv_aload_n hx hb dX8_undo_20 rfl (lv_at hl 0 rfl) ?_
    refine va_get (D := D) (ci := 8) (v := .ref a_h) (C := RX8) (T := TX8) (N := 6) hx hb hts hinX8 hown hKK.1 hP 0 rfl rfl 2 (by decide) lk26 (fun _ h9 => h9) rfl dX8_undo_21 ?_
    refine lv_aload_n hx hb dX8_undo_24 rfl (lv_at hl 0 rfl) ?_
    refine va_get (D := D) (ci := 8) (v := .ref a_o) (C := RX8) (T := TX8) (N := 6) hx hb hts hinX8 hown hKK.1 hP 0 rfl rfl 0 (by decide) lk10 (fun _ h9 => h9) rfl dX8_undo_25 ?_
    obtain ⟨v3, g4, g5, g6, g7, g8, g9, g10, g11, g12, g13, g14, g15, g16, g17, g18, g19, g20, g21, g22, g23, g24, g25, ev3, h⟩ := bn23_some h
    refine kVB (As := [.ref a_o]) (rest := []) (st1 := [.int v3]) (Bs := [B_x cI cM a_x a_x_hoistedOfCall a_o a_d a_h a_e a_g x_hoistedOfCall, B_o cI cM a_o a_t a_m a_k , B_t cI cM a_t a_t_supertypes t_count t_interfaceSet t_supertypes, B_m cI cM a_m a_m_type a_m_name a_m_arity a_m_keys a_m_defaults m_count m_type m_name m_arity m_keys m_defaults, B_k cI cM a_k a_k_staticType a_k_dynamicType a_k_target a_k_argumentCounts a_k_temporaryCounts a_k_keys a_k_kinds a_k_values a_k_temporaryKinds a_k_newKinds a_k_newValues k_count k_frozenSet k_staticType k_dynamicType k_target k_argumentCounts k_temporaryCounts k_keys k_kinds k_values k_temporaryKinds k_newKinds k_newValues, B_d cI cM a_d a_d_sources a_d_keys a_d_defaults g2 d_method d_family d_oldCount d_keptSet d_count d_sources d_keys d_defaults d_usedKeys, B_h cI cM a_h a_h_saved a_h_ad h_count h_next, B_e cI cM a_e a_e_temporaries a_e_arguments e_counter e_temporaries e_arguments, B_g cI cM a_g a_g_kinds a_g_positions g_count g_kept g_kinds g_positions, hW cI cM a_h_ad h_hs]) (Bs1 := [B_x cI cM a_x a_x_hoistedOfCall a_o a_d a_h a_e a_g x_hoistedOfCall, B_o cI cM a_o a_t a_m a_k , B_t cI cM a_t a_t_supertypes g6 g7 g8, B_m cI cM a_m a_m_type a_m_name a_m_arity a_m_keys a_m_defaults g9 g10 g11 g12 g13 g14, B_k cI cM a_k a_k_staticType a_k_dynamicType a_k_target a_k_argumentCounts a_k_temporaryCounts a_k_keys a_k_kinds a_k_values a_k_temporaryKinds a_k_newKinds a_k_newValues g15 g16 g17 g18 g19 g20 g21 g22 g23 g24 g25 k_newKinds k_newValues, B_d cI cM a_d a_d_sources a_d_keys a_d_defaults g2 d_method d_family d_oldCount d_keptSet d_count d_sources d_keys d_defaults d_usedKeys, B_h cI cM a_h a_h_saved a_h_ad g4 g5, B_e cI cM a_e a_e_temporaries a_e_arguments e_counter e_temporaries e_arguments, B_g cI cM a_g a_g_kinds a_g_positions g_count g_kept g_kinds g_positions, hW cI cM a_h_ad h_hs]) SS hKK (qX3_goBack l D cI cM a_h a_h_saved a_o a_t a_t_supertypes a_m a_m_type a_m_name a_m_arity a_m_keys a_m_defaults a_k a_k_staticType a_k_dynamicType a_k_target a_k_argumentCounts a_k_temporaryCounts a_k_keys a_k_kinds a_k_values a_k_temporaryKinds a_k_newKinds a_k_newValues a_h_ad h_count h_next t_count t_interfaceSet t_supertypes m_count m_type m_name m_arity m_keys m_defaults k_count k_frozenSet k_staticType k_dynamicType k_target k_argumentCounts k_temporaryCounts k_keys k_kinds k_values k_temporaryKinds k_newKinds k_newValues h_hs v3 g4 g5 g6 g7 g8 g9 g10 g11 g12 g13 g14 g15 g16 g17 g18 g19 g20 g21 g22 g23 g24 g25 ev3) cw262 hP hD hS (isC := [6, 1, 2, 3, 4, 9]) (isR := [0, 5, 7, 8]) (C0 := [B_h cI cM a_h a_h_saved a_h_ad h_count h_next, B_o cI cM a_o a_t a_m a_k , B_t cI cM a_t a_t_supertypes t_count t_interfaceSet t_supertypes, B_m cI cM a_m a_m_type a_m_name a_m_arity a_m_keys a_m_defaults m_count m_type m_name m_arity m_keys m_defaults, B_k cI cM a_k a_k_staticType a_k_dynamicType a_k_target a_k_argumentCounts a_k_temporaryCounts a_k_keys a_k_kinds a_k_values a_k_temporaryKinds a_k_newKinds a_k_newValues k_count k_frozenSet k_staticType k_dynamicType k_target k_argumentCounts k_temporaryCounts k_keys k_kinds k_values k_temporaryKinds k_newKinds k_newValues, hW cI cM a_h_ad h_hs]) (C1 := [B_h cI cM a_h a_h_saved a_h_ad g4 g5, B_o cI cM a_o a_t a_m a_k , B_t cI cM a_t a_t_supertypes g6 g7 g8, B_m cI cM a_m a_m_type a_m_name a_m_arity a_m_keys a_m_defaults g9 g10 g11 g12 g13 g14, B_k cI cM a_k a_k_staticType a_k_dynamicType a_k_target a_k_argumentCounts a_k_temporaryCounts a_k_keys a_k_kinds a_k_values a_k_temporaryKinds a_k_newKinds a_k_newValues g15 g16 g17 g18 g19 g20 g21 g22 g23 g24 g25 k_newKinds k_newValues, hW cI cM a_h_ad h_hs]) (Rr := [B_x cI cM a_x a_x_hoistedOfCall a_o a_d a_h a_e a_g x_hoistedOfCall, B_d cI cM a_d a_d_sources a_d_keys a_d_defaults g2 d_method d_family d_oldCount d_keptSet d_count d_sources d_keys d_defaults d_usedKeys, B_e cI cM a_e a_e_temporaries a_e_arguments e_counter e_temporaries e_arguments, B_g cI cM a_g a_g_kinds a_g_positions g_count g_kept g_kinds g_positions]) (show (List.range 10).Perm ([6, 1, 2, 3, 4, 9] ++ [0, 5, 7, 8]) by decide) rfl rfl rfl rfl rfl rfl rfl (hW_addr rfl) 0 3 rfl rfl rfl hl.1 rfl (Nat.le_of_ble_eq_true rfl) dX8_undo_28 ⟨Nat.zero_le _, Nat.zero_le _⟩ rfl (fun H locs hP hD hS => ?_)
    have hP : va_P D vwCl (W_x_o_t_m_k_d_h_e_g cI cM a_x a_x_hoistedOfCall a_o a_t a_t_supertypes a_m a_m_type a_m_name a_m_arity a_m_keys a_m_defaults a_k a_k_staticType a_k_dynamicType a_k_target a_k_argumentCounts a_k_temporaryCounts a_k_keys a_k_kinds a_k_values a_k_temporaryKinds a_k_newKinds a_k_newValues a_d a_d_sources a_d_keys a_d_defaults a_h a_h_saved a_e a_e_temporaries a_e_arguments a_g a_g_kinds a_g_positions a_h_ad x_hoistedOfCall g6 g7 g8 g9 g10 g11 g12 g13 g14 g15 g16 g17 g18 g19 g20 g21 g22 g23 g24 g25 k_newKinds k_newValues g2 d_method d_family d_oldCount d_keptSet d_count d_sources d_keys d_defaults d_usedKeys g4 g5 e_counter e_temporaries e_arguments g_count g_kept g_kinds g_positions ++ hW cI cM a_h_ad h_hs) H := hP
    have hD : va_D _ (W_x_o_t_m_k_d_h_e_g cI cM a_x a_x_hoistedOfCall a_o a_t a_t_supertypes a_m a_m_type a_m_name a_m_arity a_m_keys a_m_defaults a_k a_k_staticType a_k_dynamicType a_k_target a_k_argumentCounts a_k_temporaryCounts a_k_keys a_k_kinds a_k_values a_k_temporaryKinds a_k_newKinds a_k_newValues a_d a_d_sources a_d_keys a_d_defaults a_h a_h_saved a_e a_e_temporaries a_e_arguments a_g a_g_kinds a_g_positions a_h_ad x_hoistedOfCall g6 g7 g8 g9 g10 g11 g12 g13 g14 g15 g16 g17 g18 g19 g20 g21 g22 g23 g24 g25 k_newKinds k_newValues g2 d_method d_family d_oldCount d_keptSet d_count d_sources d_keys d_defaults d_usedKeys g4 g5 e_counter e_temporaries e_arguments g_count g_kept g_kinds g_positions ++ hW cI cM a_h_ad h_hs) := hD
    simp only [Option.some.injEq, Prod.mk.injEq] at h
    obtain ⟨e0, e1, e2, e3, e4, e5, e6, e7, e8, e9, e10, e11, e12, e13, e14, e15, e16, e17, e18, e19, e20, e21, e22, e23⟩ := h
    exact kRetI hx hb hr hlk e0 (by rw [← hw1, ← e1, ← e2, ← e3, ← e4, ← e5, ← e6, ← e7, ← e8, ← e9, ← e10, ← e11, ← e12, ← e13, ← e14, ← e15, ← e16, ← e17, ← e18, ← e19, ← e20, ← e21, ← e22, ← e23]; exact hP) hS dX8_undo_31
  · have h := ifp h c1
    refine lv_bipush (v := (-2)) hx hb dX8_undo_10 (by decide) ?_
    simp only [Option.some.injEq, Prod.mk.injEq] at h
    obtain ⟨e0, e1, e2, e3, e4, e5, e6, e7, e8, e9, e10, e11, e12, e13, e14, e15, e16, e17, e18, e19, e20, e21, e22, e23⟩ := h
    exact kRetI hx hb hr hlk e0 (by rw [← hw1, ← e1, ← e2, ← e3, ← e4, ← e5, ← e6, ← e7, ← e8, ← e9, ← e10, ← e11, ← e12, ← e13, ← e14, ← e15, ← e16, ← e17, ← e18, ← e19, ← e20, ← e21, ← e22, ← e23]; exact hP) hS dX8_undo_12
set_option maxHeartbeats 8000000 in
set_option maxRecDepth 100000 in
theorem qX9_in (l : Launch) (D : va_G) (cI cM : ClassId) (x0 : Int32) (x1 : Int32) (x2 : Int32) (r : Int32) (h : fX9_in x0 x1 x2 = some r) : PM l yX9_in wsX9_in rmX9_in D cI cM [.int x0, .int x1, .int x2] ([]) r := by
  refine PM.of (cc := cX9_in) (maxL := 3) (ret := (some .boolean)) (by decide) rfl (Nat.le_of_ble_eq_true rfl) ?_
  intro p e s m below meth c ls hx hb hr hml hown hts hlk hP hKK hl
  have hown : s.vm.findClass RX9 = some m.cls := hown
  have hl : lv_has ls 3 [(0, .int x0), (1, .int x1), (2, .int x2)] := hl
  generalize hav : ([.int x0, .int x1, .int x2] : List Value) = av at hts ⊢
  have SS : CallFix p m c cX9_in 3 s av.toArray wsX9_in RX9 := ⟨hx, hb, hml, hown, hts⟩
  unfold fX9_in at h
  refine lv_iload_n hx hb dX9_in_0 rfl (lv_at hl 0 rfl) ?_
  refine lv_iload_n hx hb dX9_in_1 rfl (lv_at hl 1 rfl) ?_
  refine lv_icmp_lt (tgt := 14) hx hb dX9_in_2 (by decide) (fun c1 => ?_) (fun c1 => ?_)
  · have h := ifp h c1
    refine lv_iconst (v := 0) hx hb dX9_in_14 (by decide) ?_
    exact kRetZ hx hb hr hlk rfl (Option.some.inj h) dX9_in_15
  · have h := ifn h c1
    refine lv_iload_n hx hb dX9_in_5 rfl (lv_at hl 0 rfl) ?_
    refine lv_iload_n hx hb dX9_in_6 rfl (lv_at hl 2 rfl) ?_
    refine lv_icmp_gt (tgt := 14) hx hb dX9_in_7 (by decide) (fun c2 => ?_) (fun c2 => ?_)
    · have h := ifp h c2
      refine lv_iconst (v := 0) hx hb dX9_in_14 (by decide) ?_
      exact kRetZ hx hb hr hlk rfl (Option.some.inj h) dX9_in_15
    · have h := ifn h c2
      refine lv_iconst (v := 1) hx hb dX9_in_10 (by decide) ?_
      refine lv_goto (tgt := 15) hx hb dX9_in_11 (by decide) ?_
      exact kRetZ hx hb hr hlk rfl (Option.some.inj h) dX9_in_15
set_option maxHeartbeats 8000000 in
set_option maxRecDepth 100000 in
theorem qX9_has (l : Launch) (D : va_G) (cI cM : ClassId) (x0 : Int32) (x1 : Int32) (r : Int32) (h : fX9_has x0 x1 = some r) : PM l yX9_has wsX9_has rmX9_has D cI cM [.int x0, .int x1] ([]) r := by
  refine PM.of (cc := cX9_has) (maxL := 2) (ret := (some .boolean)) (by decide) rfl (Nat.le_of_ble_eq_true rfl) ?_
  intro p e s m below meth c ls hx hb hr hml hown hts hlk hP hKK hl
  have hown : s.vm.findClass RX9 = some m.cls := hown
  have hl : lv_has ls 2 [(0, .int x0), (1, .int x1)] := hl
  generalize hav : ([.int x0, .int x1] : List Value) = av at hts ⊢
  have SS : CallFix p m c cX9_has 2 s av.toArray wsX9_has RX9 := ⟨hx, hb, hml, hown, hts⟩
  unfold fX9_has at h
  refine lv_iload_n hx hb dX9_has_0 rfl (lv_at hl 0 rfl) ?_
  refine lv_iload_n hx hb dX9_has_1 rfl (lv_at hl 1 rfl) ?_
  refine lv_ishr hx hb dX9_has_2 ?_
  refine lv_iconst (v := 1) hx hb dX9_has_3 (by decide) ?_
  refine lv_iand hx hb dX9_has_4 ?_
  refine lv_iconst (v := 1) hx hb dX9_has_5 (by decide) ?_
  refine lv_icmp_ne (tgt := 13) hx hb dX9_has_6 (by decide) (fun c1 => ?_) (fun c1 => ?_)
  · have h := ifn h c1
    refine lv_iconst (v := 0) hx hb dX9_has_13 (by decide) ?_
    exact kRetZ hx hb hr hlk rfl (Option.some.inj h) dX9_has_14
  · have h := ifp h c1
    refine lv_iconst (v := 1) hx hb dX9_has_9 (by decide) ?_
    refine lv_goto (tgt := 14) hx hb dX9_has_10 (by decide) ?_
    exact kRetZ hx hb hr hlk rfl (Option.some.inj h) dX9_has_14
set_option maxHeartbeats 8000000 in
set_option maxRecDepth 100000 in
theorem qX9_edit (l : Launch) (D : va_G) (cI cM : ClassId) (a_z a_z_s a_z_past a_z_keeps a_z_entryKey a_z_entryDefault a_z_held a_z_values a_z_kinds a_z_news : Nat) (z_s : Nat → Int32) (z_past : Nat → Int32) (z_pasts : Int32) (z_changed : Int32) (z_entries : Int32) (z_keeps : Nat → Int32) (z_entryKey : Nat → Int32) (z_entryDefault : Nat → Int32) (z_counter : Int32) (z_held : Nat → Int32) (z_values : Nat → Int32) (z_kinds : Nat → Int32) (z_news : Nat → Int32) (r_z_past : Nat → Int32) (r_z_pasts : Int32) (r_z_changed : Int32) (h : fX9_edit z_s z_past z_pasts z_changed = some (r_z_past, r_z_pasts, r_z_changed)) : IM l yX9_edit wsX9_edit rmX9_edit D cI cM [.ref a_z] (W_z cI cM a_z a_z_s a_z_past a_z_keeps a_z_entryKey a_z_entryDefault a_z_held a_z_values a_z_kinds a_z_news z_s z_past z_pasts z_changed z_entries z_keeps z_entryKey z_entryDefault z_counter z_held z_values z_kinds z_news) (W_z cI cM a_z a_z_s a_z_past a_z_keeps a_z_entryKey a_z_entryDefault a_z_held a_z_values a_z_kinds a_z_news z_s r_z_past r_z_pasts r_z_changed z_entries z_keeps z_entryKey z_entryDefault z_counter z_held z_values z_kinds z_news) none := by
  refine IM.of (cc := cX9_edit) (maxL := 2) (ret := none) (by decide) rfl (Nat.le_of_ble_eq_true rfl) ?_
  intro p e s m below meth c ls hx hb hr hml hown hts hlk hKK hP hD hS hl
  have hown : s.vm.findClass RX9 = some m.cls := hown
  have hl : lv_has ls 2 [(0, .ref a_z)] := hl
  generalize hav : ([.ref a_z] : List Value) = av at hts ⊢
  generalize hw1 : W_z cI cM a_z a_z_s a_z_past a_z_keeps a_z_entryKey a_z_entryDefault a_z_held a_z_values a_z_kinds a_z_news z_s r_z_past r_z_pasts r_z_changed z_entries z_keeps z_entryKey z_entryDefault z_counter z_held z_values z_kinds z_news = w1
  generalize hw0 : W_z cI cM a_z a_z_s a_z_past a_z_keeps a_z_entryKey a_z_entryDefault a_z_held a_z_values a_z_kinds a_z_news z_s z_past z_pasts z_changed z_entries z_keeps z_entryKey z_entryDefault z_counter z_held z_values z_kinds z_news = w0 at hD hS ⊢
  have hP : va_P D vwCl (W_z cI cM a_z a_z_s a_z_past a_z_keeps a_z_entryKey a_z_entryDefault a_z_held a_z_values a_z_kinds a_z_news z_s z_past z_pasts z_changed z_entries z_keeps z_entryKey z_entryDefault z_counter z_held z_values z_kinds z_news) s.heap := hP
  have hD : va_D (fun q => q ∈ w0.map (·.1)) (W_z cI cM a_z a_z_s a_z_past a_z_keeps a_z_entryKey a_z_entryDefault a_z_held a_z_values a_z_kinds a_z_news z_s z_past z_pasts z_changed z_entries z_keeps z_entryKey z_entryDefault z_counter z_held z_values z_kinds z_news) := by rw [hw0]; exact hD
  have SS : CallFix p m c cX9_edit 2 s av.toArray wsX9_edit RX9 := ⟨hx, hb, hml, hown, hts⟩
  have hinX9 : ∀ w ∈ u_ws RX9 TX9 13, w ∈ wsX9_edit := by decide +kernel
  have lk7 := hts (.fieldLink RX9 7 "SignatureChangerModel" "s" "[I") (List.mem_of_getElem? (i := 4) rfl)
  have lk13 := hts (.fieldLink RX9 13 "SignatureChangerModel" "past" "[I") (List.mem_of_getElem? (i := 3) rfl)
  have lk16 := hts (.fieldLink RX9 16 "SignatureChangerModel" "changed" "I") (List.mem_of_getElem? (i := 1) rfl)
  have lk41 := hts (.fieldLink RX9 41 "SignatureChangerModel" "pasts" "I") (List.mem_of_getElem? (i := 2) rfl)
  have F58 : ∀ (n : Nat) (H : Heap) (locs : List Loc) (z_past : Nat → Int32) (z_pasts : Int32) (z_changed : Int32) (y1 : Int32), lX9_edit_58 z_s n z_past z_pasts z_changed y1 = some (r_z_past, r_z_pasts, r_z_changed) → va_P D vwCl (W_z cI cM a_z a_z_s a_z_past a_z_keeps a_z_entryKey a_z_entryDefault a_z_held a_z_values a_z_kinds a_z_news z_s z_past z_pasts z_changed z_entries z_keeps z_entryKey z_entryDefault z_counter z_held z_values z_kinds z_news) H → va_D (fun q => q ∈ (w0).map (·.1)) (W_z cI cM a_z a_z_s a_z_past a_z_keeps a_z_entryKey a_z_entryDefault a_z_held a_z_values a_z_kinds a_z_news z_s z_past z_pasts z_changed z_entries z_keeps z_entryKey z_entryDefault z_counter z_held z_values z_kinds z_news) → va_S (fun q => q ∈ (w0).map (·.1)) s.heap H locs → ∀ ls : Array Slot, lv_has ls 2 [(0, .ref a_z), (1, .int y1)] → WI p l e rmX9_edit s m av below meth c D w0 w1 none H locs 58 ls [] := by
    intro n
    induction n with
    | zero => intro H locs z_past z_pasts z_changed y1 h; exact no_some h
    | succ n ih =>
      intro H locs z_past z_pasts z_changed y1 h hP hD hS ls hl
      rw [lX9_edit_58_s] at h
      refine lv_iload_n hx hb dX9_edit_58 rfl (lv_at hl 1 rfl) ?_
      refine lv_sipush (v := 467) hx hb dX9_edit_59 (by decide) ?_
      refine lv_icmp_ge (tgt := 92) hx hb dX9_edit_62 (by decide) (fun c1 => ?_) (fun c1 => ?_)
      · have h := ifp h c1
        refine lv_aload_n hx hb dX9_edit_92 rfl (lv_at hl 0 rfl) ?_
        refine lv_dup hx hb dX9_edit_93 rfl ?_
        refine va_get (D := D) (ci := 9) (v := .int z_pasts) (C := RX9) (T := TX9) (N := 13) hx hb hts hinX9 hown hKK.1 hP 0 rfl rfl 2 (by decide) lk41 (fun _ h9 => h9) rfl dX9_edit_94 ?_
        refine lv_iconst (v := 1) hx hb dX9_edit_97 (by decide) ?_
        refine lv_iadd hx hb dX9_edit_98 ?_
        refine va_put (D := D) (ci := 9) (v := .int (z_pasts + 1)) (ty := .int) (C := RX9) (T := TX9) (N := 13) hx hb hts hinX9 tyX9 tyX9_ok nmX9 hown hKK.1 hP hD hS 0 rfl rfl 2 (by decide) lk41 (fun _ h9 => h9) rfl (by decide +kernel) rfl rfl (Nat.le_of_ble_eq_true rfl) dX9_edit_99 (fun H locs hP hD hS => ?_)
        have hP : va_P D vwCl (W_z cI cM a_z a_z_s a_z_past a_z_keeps a_z_entryKey a_z_entryDefault a_z_held a_z_values a_z_kinds a_z_news z_s z_past (z_pasts + 1) z_changed z_entries z_keeps z_entryKey z_entryDefault z_counter z_held z_values z_kinds z_news) H := hP
        have hD : va_D _ (W_z cI cM a_z a_z_s a_z_past a_z_keeps a_z_entryKey a_z_entryDefault a_z_held a_z_values a_z_kinds a_z_news z_s z_past (z_pasts + 1) z_changed z_entries z_keeps z_entryKey z_entryDefault z_counter z_held z_values z_kinds z_news) := hD
        simp only [Option.some.injEq, Prod.mk.injEq] at h
        obtain ⟨e0, e1, e2⟩ := h
        exact kRetV hx hb hr hlk (by rw [← hw1, ← e0, ← e1, ← e2]; exact hP) hS dX9_edit_102
      · have h := ifn h c1
        refine lv_aload_n hx hb dX9_edit_65 rfl (lv_at hl 0 rfl) ?_
        refine va_get (D := D) (ci := 9) (v := .ref a_z_past) (C := RX9) (T := TX9) (N := 13) hx hb hts hinX9 hown hKK.1 hP 0 rfl rfl 1 (by decide) lk13 (fun _ h9 => h9) rfl dX9_edit_66 ?_
        refine lv_sipush (v := 467) hx hb dX9_edit_69 (by decide) ?_
        refine lv_aload_n hx hb dX9_edit_72 rfl (lv_at hl 0 rfl) ?_
        refine va_get (D := D) (ci := 9) (v := .int z_pasts) (C := RX9) (T := TX9) (N := 13) hx hb hts hinX9 hown hKK.1 hP 0 rfl rfl 2 (by decide) lk41 (fun _ h9 => h9) rfl dX9_edit_73 ?_
        refine lv_imul hx hb dX9_edit_76 ?_
        refine lv_iload_n hx hb dX9_edit_77 rfl (lv_at hl 1 rfl) ?_
        refine lv_iadd hx hb dX9_edit_78 ?_
        refine lv_aload_n hx hb dX9_edit_79 rfl (lv_at hl 0 rfl) ?_
        refine va_get (D := D) (ci := 9) (v := .ref a_z_s) (C := RX9) (T := TX9) (N := 13) hx hb hts hinX9 hown hKK.1 hP 0 rfl rfl 0 (by decide) lk7 (fun _ h9 => h9) rfl dX9_edit_80 ?_
        refine lv_iload_n hx hb dX9_edit_83 rfl (lv_at hl 1 rfl) ?_
        obtain ⟨v2, iv2, ev2, h⟩ := rd_some h
        refine kAld hx hb hKK hP 1 rfl iv2 ev2 dX9_edit_84 ?_
        obtain ⟨g3, ig3, eg3, h⟩ := wr_some h
        refine kAst hx hb hKK hP hD hS 2 rfl ig3 eg3 dX9_edit_85 (fun H locs hP hD hS => ?_)
        have hP : va_P D vwCl (W_z cI cM a_z a_z_s a_z_past a_z_keeps a_z_entryKey a_z_entryDefault a_z_held a_z_values a_z_kinds a_z_news z_s g3 z_pasts z_changed z_entries z_keeps z_entryKey z_entryDefault z_counter z_held z_values z_kinds z_news) H := hP
        have hD : va_D _ (W_z cI cM a_z a_z_s a_z_past a_z_keeps a_z_entryKey a_z_entryDefault a_z_held a_z_values a_z_kinds a_z_news z_s g3 z_pasts z_changed z_entries z_keeps z_entryKey z_entryDefault z_counter z_held z_values z_kinds z_news) := hD
        refine lv_iinc (v := y1 + 1) (lv' := [(1, .int (y1 + 1)), (0, .ref a_z)]) hx hb dX9_edit_86 hl (k := 1) rfl rfl (by decide) rfl (fun ls hl => ?_)
        refine lv_goto (tgt := 58) hx hb dX9_edit_89 (by decide) ?_
        exact ih H locs g3 z_pasts z_changed (y1 + 1) h hP hD hS ls (lv_sub (l' := [(0, .ref a_z), (1, .int (y1 + 1))]) hl [1, 0] rfl)
  have F56 : ∀ (H : Heap) (locs : List Loc) (z_past : Nat → Int32) (z_pasts : Int32) (z_changed : Int32), jX9_edit_56 z_s z_past z_pasts z_changed = some (r_z_past, r_z_pasts, r_z_changed) → va_P D vwCl (W_z cI cM a_z a_z_s a_z_past a_z_keeps a_z_entryKey a_z_entryDefault a_z_held a_z_values a_z_kinds a_z_news z_s z_past z_pasts z_changed z_entries z_keeps z_entryKey z_entryDefault z_counter z_held z_values z_kinds z_news) H → va_D (fun q => q ∈ (w0).map (·.1)) (W_z cI cM a_z a_z_s a_z_past a_z_keeps a_z_entryKey a_z_entryDefault a_z_held a_z_values a_z_kinds a_z_news z_s z_past z_pasts z_changed z_entries z_keeps z_entryKey z_entryDefault z_counter z_held z_values z_kinds z_news) → va_S (fun q => q ∈ (w0).map (·.1)) s.heap H locs → ∀ ls : Array Slot, lv_has ls 2 [(0, .ref a_z)] → WI p l e rmX9_edit s m av below meth c D w0 w1 none H locs 56 ls [] := by
    intro H locs z_past z_pasts z_changed h hP hD hS ls hl
    unfold jX9_edit_56 at h
    refine lv_iconst (v := 0) hx hb dX9_edit_56 (by decide) ?_
    refine lv_istore_n (lv' := [(1, .int 0), (0, .ref a_z)]) hx hb dX9_edit_57 rfl hl (by decide) rfl (fun ls hl => ?_)
    exact F58 5000 H locs z_past z_pasts z_changed 0 h hP hD hS ls (lv_sub (l' := [(0, .ref a_z), (1, .int 0)]) hl [1, 0] rfl)
  have F17 : ∀ (n : Nat) (H : Heap) (locs : List Loc) (z_past : Nat → Int32) (z_pasts : Int32) (z_changed : Int32) (y1 : Int32), lX9_edit_17 z_s n z_past z_pasts z_changed y1 = some (r_z_past, r_z_pasts, r_z_changed) → va_P D vwCl (W_z cI cM a_z a_z_s a_z_past a_z_keeps a_z_entryKey a_z_entryDefault a_z_held a_z_values a_z_kinds a_z_news z_s z_past z_pasts z_changed z_entries z_keeps z_entryKey z_entryDefault z_counter z_held z_values z_kinds z_news) H → va_D (fun q => q ∈ (w0).map (·.1)) (W_z cI cM a_z a_z_s a_z_past a_z_keeps a_z_entryKey a_z_entryDefault a_z_held a_z_values a_z_kinds a_z_news z_s z_past z_pasts z_changed z_entries z_keeps z_entryKey z_entryDefault z_counter z_held z_values z_kinds z_news) → va_S (fun q => q ∈ (w0).map (·.1)) s.heap H locs → ∀ ls : Array Slot, lv_has ls 2 [(0, .ref a_z), (1, .int y1)] → WI p l e rmX9_edit s m av below meth c D w0 w1 none H locs 17 ls [] := by
    intro n
    induction n with
    | zero => intro H locs z_past z_pasts z_changed y1 h; exact no_some h
    | succ n ih =>
      intro H locs z_past z_pasts z_changed y1 h hP hD hS ls hl
      rw [lX9_edit_17_s] at h
      refine lv_iload_n hx hb dX9_edit_17 rfl (lv_at hl 1 rfl) ?_
      refine lv_sipush (v := 3269) hx hb dX9_edit_18 (by decide) ?_
      refine lv_icmp_ge (tgt := 46) hx hb dX9_edit_21 (by decide) (fun c1 => ?_) (fun c1 => ?_)
      · have h := ifp h c1
        refine lv_aload_n hx hb dX9_edit_46 rfl (lv_at hl 0 rfl) ?_
        refine lv_dup hx hb dX9_edit_47 rfl ?_
        refine va_get (D := D) (ci := 9) (v := .int z_pasts) (C := RX9) (T := TX9) (N := 13) hx hb hts hinX9 hown hKK.1 hP 0 rfl rfl 2 (by decide) lk41 (fun _ h9 => h9) rfl dX9_edit_48 ?_
        refine lv_iconst (v := 1) hx hb dX9_edit_51 (by decide) ?_
        refine lv_isub hx hb dX9_edit_52 ?_
        refine va_put (D := D) (ci := 9) (v := .int (z_pasts - 1)) (ty := .int) (C := RX9) (T := TX9) (N := 13) hx hb hts hinX9 tyX9 tyX9_ok nmX9 hown hKK.1 hP hD hS 0 rfl rfl 2 (by decide) lk41 (fun _ h9 => h9) rfl (by decide +kernel) rfl rfl (Nat.le_of_ble_eq_true rfl) dX9_edit_53 (fun H locs hP hD hS => ?_)
        have hP : va_P D vwCl (W_z cI cM a_z a_z_s a_z_past a_z_keeps a_z_entryKey a_z_entryDefault a_z_held a_z_values a_z_kinds a_z_news z_s z_past (z_pasts - 1) z_changed z_entries z_keeps z_entryKey z_entryDefault z_counter z_held z_values z_kinds z_news) H := hP
        have hD : va_D _ (W_z cI cM a_z a_z_s a_z_past a_z_keeps a_z_entryKey a_z_entryDefault a_z_held a_z_values a_z_kinds a_z_news z_s z_past (z_pasts - 1) z_changed z_entries z_keeps z_entryKey z_entryDefault z_counter z_held z_values z_kinds z_news) := hD
        exact F56 H locs z_past (z_pasts - 1) z_changed h hP hD hS ls (lv_sub (l' := [(0, .ref a_z)]) hl [0] rfl)
      · have h := ifn h c1
        refine lv_aload_n hx hb dX9_edit_24 rfl (lv_at hl 0 rfl) ?_
        refine va_get (D := D) (ci := 9) (v := .ref a_z_past) (C := RX9) (T := TX9) (N := 13) hx hb hts hinX9 hown hKK.1 hP 0 rfl rfl 1 (by decide) lk13 (fun _ h9 => h9) rfl dX9_edit_25 ?_
        refine lv_iload_n hx hb dX9_edit_28 rfl (lv_at hl 1 rfl) ?_
        refine lv_aload_n hx hb dX9_edit_29 rfl (lv_at hl 0 rfl) ?_
        refine va_get (D := D) (ci := 9) (v := .ref a_z_past) (C := RX9) (T := TX9) (N := 13) hx hb hts hinX9 hown hKK.1 hP 0 rfl rfl 1 (by decide) lk13 (fun _ h9 => h9) rfl dX9_edit_30 ?_
        refine lv_iload_n hx hb dX9_edit_33 rfl (lv_at hl 1 rfl) ?_
        refine lv_sipush (v := 467) hx hb dX9_edit_34 (by decide) ?_
        refine lv_iadd hx hb dX9_edit_37 ?_
        obtain ⟨v2, iv2, ev2, h⟩ := rd_some h
        refine kAld hx hb hKK hP 2 rfl iv2 ev2 dX9_edit_38 ?_
        obtain ⟨g3, ig3, eg3, h⟩ := wr_some h
        refine kAst hx hb hKK hP hD hS 2 rfl ig3 eg3 dX9_edit_39 (fun H locs hP hD hS => ?_)
        have hP : va_P D vwCl (W_z cI cM a_z a_z_s a_z_past a_z_keeps a_z_entryKey a_z_entryDefault a_z_held a_z_values a_z_kinds a_z_news z_s g3 z_pasts z_changed z_entries z_keeps z_entryKey z_entryDefault z_counter z_held z_values z_kinds z_news) H := hP
        have hD : va_D _ (W_z cI cM a_z a_z_s a_z_past a_z_keeps a_z_entryKey a_z_entryDefault a_z_held a_z_values a_z_kinds a_z_news z_s g3 z_pasts z_changed z_entries z_keeps z_entryKey z_entryDefault z_counter z_held z_values z_kinds z_news) := hD
        refine lv_iinc (v := y1 + 1) (lv' := [(1, .int (y1 + 1)), (0, .ref a_z)]) hx hb dX9_edit_40 hl (k := 1) rfl rfl (by decide) rfl (fun ls hl => ?_)
        refine lv_goto (tgt := 17) hx hb dX9_edit_43 (by decide) ?_
        exact ih H locs g3 z_pasts z_changed (y1 + 1) h hP hD hS ls (lv_sub (l' := [(0, .ref a_z), (1, .int (y1 + 1))]) hl [1, 0] rfl)
  unfold fX9_edit at h
  refine lv_aload_n hx hb dX9_edit_0 rfl (lv_at hl 0 rfl) ?_
  refine lv_bipush (v := (-9)) hx hb dX9_edit_1 (by decide) ?_
  refine va_put (D := D) (ci := 9) (v := .int (-9)) (ty := .int) (C := RX9) (T := TX9) (N := 13) hx hb hts hinX9 tyX9 tyX9_ok nmX9 hown hKK.1 hP hD hS 0 rfl rfl 3 (by decide) lk16 (fun _ h9 => h9) rfl (by decide +kernel) rfl rfl (Nat.le_of_ble_eq_true rfl) dX9_edit_3 (fun H locs hP hD hS => ?_)
  have hP : va_P D vwCl (W_z cI cM a_z a_z_s a_z_past a_z_keeps a_z_entryKey a_z_entryDefault a_z_held a_z_values a_z_kinds a_z_news z_s z_past z_pasts (-9) z_entries z_keeps z_entryKey z_entryDefault z_counter z_held z_values z_kinds z_news) H := hP
  have hD : va_D _ (W_z cI cM a_z a_z_s a_z_past a_z_keeps a_z_entryKey a_z_entryDefault a_z_held a_z_values a_z_kinds a_z_news z_s z_past z_pasts (-9) z_entries z_keeps z_entryKey z_entryDefault z_counter z_held z_values z_kinds z_news) := hD
  refine lv_aload_n hx hb dX9_edit_6 rfl (lv_at hl 0 rfl) ?_
  refine va_get (D := D) (ci := 9) (v := .int z_pasts) (C := RX9) (T := TX9) (N := 13) hx hb hts hinX9 hown hKK.1 hP 0 rfl rfl 2 (by decide) lk41 (fun _ h9 => h9) rfl dX9_edit_7 ?_
  refine lv_bipush (v := 8) hx hb dX9_edit_10 (by decide) ?_
  refine lv_icmp_ne (tgt := 56) hx hb dX9_edit_12 (by decide) (fun c1 => ?_) (fun c1 => ?_)
  · have h := ifn h c1
    exact F56 H locs z_past z_pasts (-9) h hP hD hS ls (lv_sub (l' := [(0, .ref a_z)]) hl [0] rfl)
  · have h := ifp h c1
    refine lv_iconst (v := 0) hx hb dX9_edit_15 (by decide) ?_
    refine lv_istore_n (lv' := [(1, .int 0), (0, .ref a_z)]) hx hb dX9_edit_16 rfl hl (by decide) rfl (fun ls hl => ?_)
    exact F17 5000 H locs z_past z_pasts (-9) 0 h hP hD hS ls (lv_sub (l' := [(0, .ref a_z), (1, .int 0)]) hl [1, 0] rfl)
set_option maxHeartbeats 8000000 in
set_option maxRecDepth 100000 in
theorem qX9_undo (l : Launch) (D : va_G) (cI cM : ClassId) (a_z a_z_s a_z_past a_z_keeps a_z_entryKey a_z_entryDefault a_z_held a_z_values a_z_kinds a_z_news : Nat) (z_s : Nat → Int32) (z_past : Nat → Int32) (z_pasts : Int32) (z_changed : Int32) (z_entries : Int32) (z_keeps : Nat → Int32) (z_entryKey : Nat → Int32) (z_entryDefault : Nat → Int32) (z_counter : Int32) (z_held : Nat → Int32) (z_values : Nat → Int32) (z_kinds : Nat → Int32) (z_news : Nat → Int32) (r : Int32) (r_z_s : Nat → Int32) (r_z_pasts : Int32) (r_z_changed : Int32) (h : fX9_undo z_s z_past z_pasts z_changed = some (r, r_z_s, r_z_pasts, r_z_changed)) : IM l yX9_undo wsX9_undo rmX9_undo D cI cM [.ref a_z] (W_z cI cM a_z a_z_s a_z_past a_z_keeps a_z_entryKey a_z_entryDefault a_z_held a_z_values a_z_kinds a_z_news z_s z_past z_pasts z_changed z_entries z_keeps z_entryKey z_entryDefault z_counter z_held z_values z_kinds z_news) (W_z cI cM a_z a_z_s a_z_past a_z_keeps a_z_entryKey a_z_entryDefault a_z_held a_z_values a_z_kinds a_z_news r_z_s z_past r_z_pasts r_z_changed z_entries z_keeps z_entryKey z_entryDefault z_counter z_held z_values z_kinds z_news) (some (.int r)) := by
  refine IM.of (cc := cX9_undo) (maxL := 2) (ret := (some .int)) (by decide) rfl (Nat.le_of_ble_eq_true rfl) ?_
  intro p e s m below meth c ls hx hb hr hml hown hts hlk hKK hP hD hS hl
  have hown : s.vm.findClass RX9 = some m.cls := hown
  have hl : lv_has ls 2 [(0, .ref a_z)] := hl
  generalize hav : ([.ref a_z] : List Value) = av at hts ⊢
  generalize hw1 : W_z cI cM a_z a_z_s a_z_past a_z_keeps a_z_entryKey a_z_entryDefault a_z_held a_z_values a_z_kinds a_z_news r_z_s z_past r_z_pasts r_z_changed z_entries z_keeps z_entryKey z_entryDefault z_counter z_held z_values z_kinds z_news = w1
  generalize hw0 : W_z cI cM a_z a_z_s a_z_past a_z_keeps a_z_entryKey a_z_entryDefault a_z_held a_z_values a_z_kinds a_z_news z_s z_past z_pasts z_changed z_entries z_keeps z_entryKey z_entryDefault z_counter z_held z_values z_kinds z_news = w0 at hD hS ⊢
  have hP : va_P D vwCl (W_z cI cM a_z a_z_s a_z_past a_z_keeps a_z_entryKey a_z_entryDefault a_z_held a_z_values a_z_kinds a_z_news z_s z_past z_pasts z_changed z_entries z_keeps z_entryKey z_entryDefault z_counter z_held z_values z_kinds z_news) s.heap := hP
  have hD : va_D (fun q => q ∈ w0.map (·.1)) (W_z cI cM a_z a_z_s a_z_past a_z_keeps a_z_entryKey a_z_entryDefault a_z_held a_z_values a_z_kinds a_z_news z_s z_past z_pasts z_changed z_entries z_keeps z_entryKey z_entryDefault z_counter z_held z_values z_kinds z_news) := by rw [hw0]; exact hD
  have SS : CallFix p m c cX9_undo 2 s av.toArray wsX9_undo RX9 := ⟨hx, hb, hml, hown, hts⟩
  have hinX9 : ∀ w ∈ u_ws RX9 TX9 13, w ∈ wsX9_undo := by decide +kernel
  have lk7 := hts (.fieldLink RX9 7 "SignatureChangerModel" "s" "[I") (List.mem_of_getElem? (i := 3) rfl)
  have lk13 := hts (.fieldLink RX9 13 "SignatureChangerModel" "past" "[I") (List.mem_of_getElem? (i := 4) rfl)
  have lk16 := hts (.fieldLink RX9 16 "SignatureChangerModel" "changed" "I") (List.mem_of_getElem? (i := 2) rfl)
  have lk41 := hts (.fieldLink RX9 41 "SignatureChangerModel" "pasts" "I") (List.mem_of_getElem? (i := 1) rfl)
  have F28 : ∀ (n : Nat) (H : Heap) (locs : List Loc) (z_s : Nat → Int32) (z_pasts : Int32) (z_changed : Int32) (y1 : Int32), lX9_undo_28 z_past n z_s z_pasts z_changed y1 = some (r, r_z_s, r_z_pasts, r_z_changed) → va_P D vwCl (W_z cI cM a_z a_z_s a_z_past a_z_keeps a_z_entryKey a_z_entryDefault a_z_held a_z_values a_z_kinds a_z_news z_s z_past z_pasts z_changed z_entries z_keeps z_entryKey z_entryDefault z_counter z_held z_values z_kinds z_news) H → va_D (fun q => q ∈ (w0).map (·.1)) (W_z cI cM a_z a_z_s a_z_past a_z_keeps a_z_entryKey a_z_entryDefault a_z_held a_z_values a_z_kinds a_z_news z_s z_past z_pasts z_changed z_entries z_keeps z_entryKey z_entryDefault z_counter z_held z_values z_kinds z_news) → va_S (fun q => q ∈ (w0).map (·.1)) s.heap H locs → ∀ ls : Array Slot, lv_has ls 2 [(0, .ref a_z), (1, .int y1)] → WI p l e rmX9_undo s m av below meth c D w0 w1 (some (.int r)) H locs 28 ls [] := by
    intro n
    induction n with
    | zero => intro H locs z_s z_pasts z_changed y1 h; exact no_some h
    | succ n ih =>
      intro H locs z_s z_pasts z_changed y1 h hP hD hS ls hl
      rw [lX9_undo_28_s] at h
      refine lv_iload_n hx hb dX9_undo_28 rfl (lv_at hl 1 rfl) ?_
      refine lv_sipush (v := 467) hx hb dX9_undo_29 (by decide) ?_
      refine lv_icmp_ge (tgt := 62) hx hb dX9_undo_32 (by decide) (fun c1 => ?_) (fun c1 => ?_)
      · have h := ifp h c1
        refine lv_aload_n hx hb dX9_undo_62 rfl (lv_at hl 0 rfl) ?_
        refine va_get (D := D) (ci := 9) (v := .int z_pasts) (C := RX9) (T := TX9) (N := 13) hx hb hts hinX9 hown hKK.1 hP 0 rfl rfl 2 (by decide) lk41 (fun _ h9 => h9) rfl dX9_undo_63 ?_
        simp only [Option.some.injEq, Prod.mk.injEq] at h
        obtain ⟨e0, e1, e2, e3⟩ := h
        exact kRetI hx hb hr hlk e0 (by rw [← hw1, ← e1, ← e2, ← e3]; exact hP) hS dX9_undo_66
      · have h := ifn h c1
        refine lv_aload_n hx hb dX9_undo_35 rfl (lv_at hl 0 rfl) ?_
        refine va_get (D := D) (ci := 9) (v := .ref a_z_s) (C := RX9) (T := TX9) (N := 13) hx hb hts hinX9 hown hKK.1 hP 0 rfl rfl 0 (by decide) lk7 (fun _ h9 => h9) rfl dX9_undo_36 ?_
        refine lv_iload_n hx hb dX9_undo_39 rfl (lv_at hl 1 rfl) ?_
        refine lv_aload_n hx hb dX9_undo_40 rfl (lv_at hl 0 rfl) ?_
        refine va_get (D := D) (ci := 9) (v := .ref a_z_past) (C := RX9) (T := TX9) (N := 13) hx hb hts hinX9 hown hKK.1 hP 0 rfl rfl 1 (by decide) lk13 (fun _ h9 => h9) rfl dX9_undo_41 ?_
        refine lv_sipush (v := 467) hx hb dX9_undo_44 (by decide) ?_
        refine lv_aload_n hx hb dX9_undo_47 rfl (lv_at hl 0 rfl) ?_
        refine va_get (D := D) (ci := 9) (v := .int z_pasts) (C := RX9) (T := TX9) (N := 13) hx hb hts hinX9 hown hKK.1 hP 0 rfl rfl 2 (by decide) lk41 (fun _ h9 => h9) rfl dX9_undo_48 ?_
        refine lv_imul hx hb dX9_undo_51 ?_
        refine lv_iload_n hx hb dX9_undo_52 rfl (lv_at hl 1 rfl) ?_
        refine lv_iadd hx hb dX9_undo_53 ?_
        obtain ⟨v2, iv2, ev2, h⟩ := rd_some h
        refine kAld hx hb hKK hP 2 rfl iv2 ev2 dX9_undo_54 ?_
        obtain ⟨g3, ig3, eg3, h⟩ := wr_some h
        refine kAst hx hb hKK hP hD hS 1 rfl ig3 eg3 dX9_undo_55 (fun H locs hP hD hS => ?_)
        have hP : va_P D vwCl (W_z cI cM a_z a_z_s a_z_past a_z_keeps a_z_entryKey a_z_entryDefault a_z_held a_z_values a_z_kinds a_z_news g3 z_past z_pasts z_changed z_entries z_keeps z_entryKey z_entryDefault z_counter z_held z_values z_kinds z_news) H := hP
        have hD : va_D _ (W_z cI cM a_z a_z_s a_z_past a_z_keeps a_z_entryKey a_z_entryDefault a_z_held a_z_values a_z_kinds a_z_news g3 z_past z_pasts z_changed z_entries z_keeps z_entryKey z_entryDefault z_counter z_held z_values z_kinds z_news) := hD
        refine lv_iinc (v := y1 + 1) (lv' := [(1, .int (y1 + 1)), (0, .ref a_z)]) hx hb dX9_undo_56 hl (k := 1) rfl rfl (by decide) rfl (fun ls hl => ?_)
        refine lv_goto (tgt := 28) hx hb dX9_undo_59 (by decide) ?_
        exact ih H locs g3 z_pasts z_changed (y1 + 1) h hP hD hS ls (lv_sub (l' := [(0, .ref a_z), (1, .int (y1 + 1))]) hl [1, 0] rfl)
  unfold fX9_undo at h
  refine lv_aload_n hx hb dX9_undo_0 rfl (lv_at hl 0 rfl) ?_
  refine va_get (D := D) (ci := 9) (v := .int z_pasts) (C := RX9) (T := TX9) (N := 13) hx hb hts hinX9 hown hKK.1 hP 0 rfl rfl 2 (by decide) lk41 (fun _ h9 => h9) rfl dX9_undo_1 ?_
  refine lv_if_ne (tgt := 10) hx hb dX9_undo_4 (by decide) (fun c1 => ?_) (fun c1 => ?_)
  · have h := ifn h c1
    refine lv_aload_n hx hb dX9_undo_10 rfl (lv_at hl 0 rfl) ?_
    refine lv_bipush (v := (-9)) hx hb dX9_undo_11 (by decide) ?_
    refine va_put (D := D) (ci := 9) (v := .int (-9)) (ty := .int) (C := RX9) (T := TX9) (N := 13) hx hb hts hinX9 tyX9 tyX9_ok nmX9 hown hKK.1 hP hD hS 0 rfl rfl 3 (by decide) lk16 (fun _ h9 => h9) rfl (by decide +kernel) rfl rfl (Nat.le_of_ble_eq_true rfl) dX9_undo_13 (fun H locs hP hD hS => ?_)
    have hP : va_P D vwCl (W_z cI cM a_z a_z_s a_z_past a_z_keeps a_z_entryKey a_z_entryDefault a_z_held a_z_values a_z_kinds a_z_news z_s z_past z_pasts (-9) z_entries z_keeps z_entryKey z_entryDefault z_counter z_held z_values z_kinds z_news) H := hP
    have hD : va_D _ (W_z cI cM a_z a_z_s a_z_past a_z_keeps a_z_entryKey a_z_entryDefault a_z_held a_z_values a_z_kinds a_z_news z_s z_past z_pasts (-9) z_entries z_keeps z_entryKey z_entryDefault z_counter z_held z_values z_kinds z_news) := hD
    refine lv_aload_n hx hb dX9_undo_16 rfl (lv_at hl 0 rfl) ?_
    refine lv_dup hx hb dX9_undo_17 rfl ?_
    refine va_get (D := D) (ci := 9) (v := .int z_pasts) (C := RX9) (T := TX9) (N := 13) hx hb hts hinX9 hown hKK.1 hP 0 rfl rfl 2 (by decide) lk41 (fun _ h9 => h9) rfl dX9_undo_18 ?_
    refine lv_iconst (v := 1) hx hb dX9_undo_21 (by decide) ?_
    refine lv_isub hx hb dX9_undo_22 ?_
    refine va_put (D := D) (ci := 9) (v := .int (z_pasts - 1)) (ty := .int) (C := RX9) (T := TX9) (N := 13) hx hb hts hinX9 tyX9 tyX9_ok nmX9 hown hKK.1 hP hD hS 0 rfl rfl 2 (by decide) lk41 (fun _ h9 => h9) rfl (by decide +kernel) rfl rfl (Nat.le_of_ble_eq_true rfl) dX9_undo_23 (fun H locs hP hD hS => ?_)
    have hP : va_P D vwCl (W_z cI cM a_z a_z_s a_z_past a_z_keeps a_z_entryKey a_z_entryDefault a_z_held a_z_values a_z_kinds a_z_news z_s z_past (z_pasts - 1) (-9) z_entries z_keeps z_entryKey z_entryDefault z_counter z_held z_values z_kinds z_news) H := hP
    have hD : va_D _ (W_z cI cM a_z a_z_s a_z_past a_z_keeps a_z_entryKey a_z_entryDefault a_z_held a_z_values a_z_kinds a_z_news z_s z_past (z_pasts - 1) (-9) z_entries z_keeps z_entryKey z_entryDefault z_counter z_held z_values z_kinds z_news) := hD
    refine lv_iconst (v := 0) hx hb dX9_undo_26 (by decide) ?_
    refine lv_istore_n (lv' := [(1, .int 0), (0, .ref a_z)]) hx hb dX9_undo_27 rfl hl (by decide) rfl (fun ls hl => ?_)
    exact F28 5000 H locs z_s (z_pasts - 1) (-9) 0 h hP hD hS ls (lv_sub (l' := [(0, .ref a_z), (1, .int 0)]) hl [1, 0] rfl)
  · have h := ifp h c1
    refine lv_bipush (v := (-2)) hx hb dX9_undo_7 (by decide) ?_
    simp only [Option.some.injEq, Prod.mk.injEq] at h
    obtain ⟨e0, e1, e2, e3⟩ := h
    exact kRetI hx hb hr hlk e0 (by rw [← hw1, ← e1, ← e2, ← e3]; exact hP) hS dX9_undo_9
set_option maxHeartbeats 8000000 in
set_option maxRecDepth 100000 in
theorem qX9_isType (l : Launch) (D : va_G) (cI cM : ClassId) (a_z a_z_s a_z_past a_z_keeps a_z_entryKey a_z_entryDefault a_z_held a_z_values a_z_kinds a_z_news : Nat) (z_s : Nat → Int32) (z_past : Nat → Int32) (z_pasts : Int32) (z_changed : Int32) (z_entries : Int32) (z_keeps : Nat → Int32) (z_entryKey : Nat → Int32) (z_entryDefault : Nat → Int32) (z_counter : Int32) (z_held : Nat → Int32) (z_values : Nat → Int32) (z_kinds : Nat → Int32) (z_news : Nat → Int32) (x1 : Int32) (r : Int32) (h : fX9_isType z_s x1 = some r) : PM l yX9_isType wsX9_isType rmX9_isType D cI cM [.ref a_z, .int x1] (W_z cI cM a_z a_z_s a_z_past a_z_keeps a_z_entryKey a_z_entryDefault a_z_held a_z_values a_z_kinds a_z_news z_s z_past z_pasts z_changed z_entries z_keeps z_entryKey z_entryDefault z_counter z_held z_values z_kinds z_news) r := by
  refine PM.of (cc := cX9_isType) (maxL := 2) (ret := (some .boolean)) (by decide) rfl (Nat.le_of_ble_eq_true rfl) ?_
  intro p e s m below meth c ls hx hb hr hml hown hts hlk hP hKK hl
  have hown : s.vm.findClass RX9 = some m.cls := hown
  have hl : lv_has ls 2 [(0, .ref a_z), (1, .int x1)] := hl
  generalize hav : ([.ref a_z, .int x1] : List Value) = av at hts ⊢
  have SS : CallFix p m c cX9_isType 2 s av.toArray wsX9_isType RX9 := ⟨hx, hb, hml, hown, hts⟩
  have hinX9 : ∀ w ∈ u_ws RX9 TX9 13, w ∈ wsX9_isType := by decide +kernel
  have lk7 := hts (.fieldLink RX9 7 "SignatureChangerModel" "s" "[I") (List.mem_of_getElem? (i := 1) rfl)
  have cw44 : CallB rmX9_isType s av.toArray RX9 44 yX9_in cX9_in 3 (some .boolean) wsX9_in rmX9_in 0 0 3 ∧ (Cond.static yX9_in).before av.toArray s = true := va_cwS 3 hts gX9_isType_X9_in rfl rfl rfl (by decide +kernel) ⟨Nat.le_of_ble_eq_true rfl, Nat.le_of_ble_eq_true rfl⟩
  unfold fX9_isType at h
  refine lv_iload_n hx hb dX9_isType_0 rfl (lv_at hl 1 rfl) ?_
  refine lv_iconst (v := 0) hx hb dX9_isType_1 (by decide) ?_
  refine lv_aload_n hx hb dX9_isType_2 rfl (lv_at hl 0 rfl) ?_
  refine va_get (D := D) (ci := 9) (v := .ref a_z_s) (C := RX9) (T := TX9) (N := 13) hx hb hts hinX9 hown hKK.1 hP 0 rfl rfl 0 (by decide) lk7 (fun _ h9 => h9) rfl dX9_isType_3 ?_
  refine lv_iconst (v := 0) hx hb dX9_isType_6 (by decide) ?_
  obtain ⟨v1, iv1, ev1, h⟩ := rd_some h
  refine kAld hx hb hKK hP 1 rfl iv1 ev1 dX9_isType_7 ?_
  refine lv_iconst (v := 1) hx hb dX9_isType_8 (by decide) ?_
  refine lv_isub hx hb dX9_isType_9 ?_
  obtain ⟨v2, ev2, h⟩ := bn_some h
  refine kS (As := [.int x1, .int 0, .int (v1 - 1)]) (rest := []) SS hKK (qX9_in l D cI cM x1 0 (v1 - 1) v2 ev2) cw44 va_P_nil rfl hl.1 rfl (Nat.le_of_ble_eq_true rfl) dX9_isType_10 ⟨Nat.zero_le _, Nat.zero_le _⟩ ?_
  exact kRetZ hx hb hr hlk (rb_some h).2 (rb_some h).1 dX9_isType_13
set_option maxHeartbeats 8000000 in
set_option maxRecDepth 100000 in
theorem qX9_isInterface (l : Launch) (D : va_G) (cI cM : ClassId) (a_z a_z_s a_z_past a_z_keeps a_z_entryKey a_z_entryDefault a_z_held a_z_values a_z_kinds a_z_news : Nat) (z_s : Nat → Int32) (z_past : Nat → Int32) (z_pasts : Int32) (z_changed : Int32) (z_entries : Int32) (z_keeps : Nat → Int32) (z_entryKey : Nat → Int32) (z_entryDefault : Nat → Int32) (z_counter : Int32) (z_held : Nat → Int32) (z_values : Nat → Int32) (z_kinds : Nat → Int32) (z_news : Nat → Int32) (x1 : Int32) (r : Int32) (h : fX9_isInterface z_s x1 = some r) : PM l yX9_isInterface wsX9_isInterface rmX9_isInterface D cI cM [.ref a_z, .int x1] (W_z cI cM a_z a_z_s a_z_past a_z_keeps a_z_entryKey a_z_entryDefault a_z_held a_z_values a_z_kinds a_z_news z_s z_past z_pasts z_changed z_entries z_keeps z_entryKey z_entryDefault z_counter z_held z_values z_kinds z_news) r := by
  refine PM.of (cc := cX9_isInterface) (maxL := 2) (ret := (some .boolean)) (by decide) rfl (Nat.le_of_ble_eq_true rfl) ?_
  intro p e s m below meth c ls hx hb hr hml hown hts hlk hP hKK hl
  have hown : s.vm.findClass RX9 = some m.cls := hown
  have hl : lv_has ls 2 [(0, .ref a_z), (1, .int x1)] := hl
  generalize hav : ([.ref a_z, .int x1] : List Value) = av at hts ⊢
  have SS : CallFix p m c cX9_isInterface 2 s av.toArray wsX9_isInterface RX9 := ⟨hx, hb, hml, hown, hts⟩
  have hinX9 : ∀ w ∈ u_ws RX9 TX9 13, w ∈ wsX9_isInterface := by decide +kernel
  have lk7 := hts (.fieldLink RX9 7 "SignatureChangerModel" "s" "[I") (List.mem_of_getElem? (i := 1) rfl)
  unfold fX9_isInterface at h
  refine lv_aload_n hx hb dX9_isInterface_0 rfl (lv_at hl 0 rfl) ?_
  refine va_get (D := D) (ci := 9) (v := .ref a_z_s) (C := RX9) (T := TX9) (N := 13) hx hb hts hinX9 hown hKK.1 hP 0 rfl rfl 0 (by decide) lk7 (fun _ h9 => h9) rfl dX9_isInterface_1 ?_
  refine lv_iconst (v := 1) hx hb dX9_isInterface_4 (by decide) ?_
  refine lv_iconst (v := 3) hx hb dX9_isInterface_5 (by decide) ?_
  refine lv_iload_n hx hb dX9_isInterface_6 rfl (lv_at hl 1 rfl) ?_
  refine lv_imul hx hb dX9_isInterface_7 ?_
  refine lv_iadd hx hb dX9_isInterface_8 ?_
  obtain ⟨v1, iv1, ev1, h⟩ := rd_some h
  refine kAld hx hb hKK hP 1 rfl iv1 ev1 dX9_isInterface_9 ?_
  refine lv_iconst (v := 1) hx hb dX9_isInterface_10 (by decide) ?_
  refine lv_icmp_ne (tgt := 18) hx hb dX9_isInterface_11 (by decide) (fun c2 => ?_) (fun c2 => ?_)
  · have h := ifn h c2
    refine lv_iconst (v := 0) hx hb dX9_isInterface_18 (by decide) ?_
    exact kRetZ hx hb hr hlk rfl (Option.some.inj h) dX9_isInterface_19
  · have h := ifp h c2
    refine lv_iconst (v := 1) hx hb dX9_isInterface_14 (by decide) ?_
    refine lv_goto (tgt := 19) hx hb dX9_isInterface_15 (by decide) ?_
    exact kRetZ hx hb hr hlk rfl (Option.some.inj h) dX9_isInterface_19
set_option maxHeartbeats 8000000 in
set_option maxRecDepth 100000 in
theorem qX9_closed (l : Launch) (D : va_G) (cI cM : ClassId) (a_z a_z_s a_z_past a_z_keeps a_z_entryKey a_z_entryDefault a_z_held a_z_values a_z_kinds a_z_news : Nat) (z_s : Nat → Int32) (z_past : Nat → Int32) (z_pasts : Int32) (z_changed : Int32) (z_entries : Int32) (z_keeps : Nat → Int32) (z_entryKey : Nat → Int32) (z_entryDefault : Nat → Int32) (z_counter : Int32) (z_held : Nat → Int32) (z_values : Nat → Int32) (z_kinds : Nat → Int32) (z_news : Nat → Int32) (x1 : Int32) (r : Int32) (h : fX9_closed z_s x1 = some r) : PM l yX9_closed wsX9_closed rmX9_closed D cI cM [.ref a_z, .int x1] (W_z cI cM a_z a_z_s a_z_past a_z_keeps a_z_entryKey a_z_entryDefault a_z_held a_z_values a_z_kinds a_z_news z_s z_past z_pasts z_changed z_entries z_keeps z_entryKey z_entryDefault z_counter z_held z_values z_kinds z_news) r := by
  refine PM.of (cc := cX9_closed) (maxL := 4) (ret := (some .int)) (by decide) rfl (Nat.le_of_ble_eq_true rfl) ?_
  intro p e s m below meth c ls hx hb hr hml hown hts hlk hP hKK hl
  have hown : s.vm.findClass RX9 = some m.cls := hown
  have hl : lv_has ls 4 [(0, .ref a_z), (1, .int x1)] := hl
  generalize hav : ([.ref a_z, .int x1] : List Value) = av at hts ⊢
  have SS : CallFix p m c cX9_closed 4 s av.toArray wsX9_closed RX9 := ⟨hx, hb, hml, hown, hts⟩
  have hinX9 : ∀ w ∈ u_ws RX9 TX9 13, w ∈ wsX9_closed := by decide +kernel
  have lk7 := hts (.fieldLink RX9 7 "SignatureChangerModel" "s" "[I") (List.mem_of_getElem? (i := 1) rfl)
  have cw48 : CallB rmX9_closed s av.toArray RX9 48 yX9_has cX9_has 2 (some .boolean) wsX9_has rmX9_has 0 0 2 ∧ (Cond.static yX9_has).before av.toArray s = true := va_cwS 2 hts gX9_closed_X9_has rfl rfl rfl (by decide +kernel) ⟨Nat.le_of_ble_eq_true rfl, Nat.le_of_ble_eq_true rfl⟩
  have F63 : ∀ (k5 : Int32 → Int32 → Option (Int32)) (hk5 : ∀ (u2 : Int32) (u3 : Int32), k5 u2 u3 = some r → ∀ ls : Array Slot, lv_has ls 4 [(0, .ref a_z), (2, .int u2), (3, .int u3)] → WP p l e rmX9_closed s m av below meth c r 5 ls []), ∀ (y3 : Int32) (s0 : Int32) (s1 : Int32) (s2 : Int32), jX9_closed_63 z_s k5 y3 s0 s1 s2 = some r → ∀ ls : Array Slot, lv_has ls 4 [(0, .ref a_z), (3, .int y3)] → WP p l e rmX9_closed s m av below meth c r 63 ls [.int s2, .int s1, .int s0] := by
    intro k5 hk5
    intro y3 s0 s1 s2 h ls hl
    unfold jX9_closed_63 at h
    refine lv_ior hx hb dX9_closed_63 ?_
    refine lv_ior hx hb dX9_closed_64 ?_
    refine lv_istore_n (lv' := [(2, .int (s0 ||| (s1 ||| s2))), (0, .ref a_z), (3, .int y3)]) hx hb dX9_closed_65 rfl hl (by decide) rfl (fun ls hl => ?_)
    refine lv_iinc (v := y3 + (-1)) (lv' := [(3, .int (y3 + (-1))), (2, .int (s0 ||| (s1 ||| s2))), (0, .ref a_z)]) hx hb dX9_closed_66 hl (k := 2) rfl rfl (by decide) rfl (fun ls hl => ?_)
    refine lv_goto (tgt := 5) hx hb dX9_closed_69 (by decide) ?_
    exact hk5 (s0 ||| (s1 ||| s2)) (y3 + (-1)) h ls (lv_sub (l' := [(0, .ref a_z), (2, .int (s0 ||| (s1 ||| s2))), (3, .int (y3 + (-1)))]) hl [2, 1, 0] rfl)
  have F5 : ∀ (n : Nat) (y2 : Int32) (y3 : Int32), lX9_closed_5 z_s n y2 y3 = some r → ∀ ls : Array Slot, lv_has ls 4 [(0, .ref a_z), (2, .int y2), (3, .int y3)] → WP p l e rmX9_closed s m av below meth c r 5 ls [] := by
    intro n
    induction n with
    | zero => intro y2 y3 h; exact no_some h
    | succ n ih =>
      intro y2 y3 h ls hl
      rw [lX9_closed_5_s] at h
      refine lv_iload_n hx hb dX9_closed_5 rfl (lv_at hl 2 rfl) ?_
      refine lv_if_lt (tgt := 72) hx hb dX9_closed_6 (by decide) (fun c1 => ?_) (fun c1 => ?_)
      · have h := ifp h c1
        refine lv_iload_n hx hb dX9_closed_72 rfl (lv_at hl 1 rfl) ?_
        exact kRet hx hb hr hlk (Option.some.inj h) dX9_closed_73
      · have h := ifn h c1
        refine lv_iload_n hx hb dX9_closed_9 rfl (lv_at hl 1 rfl) ?_
        refine lv_iload_n hx hb dX9_closed_10 rfl (lv_at hl 2 rfl) ?_
        obtain ⟨v2, ev2, h⟩ := bn_some h
        refine kS (As := [.int y2, .int y3]) (rest := []) SS hKK (qX9_has l D cI cM y2 y3 v2 ev2) cw48 va_P_nil rfl hl.1 rfl (Nat.le_of_ble_eq_true rfl) dX9_closed_11 ⟨Nat.zero_le _, Nat.zero_le _⟩ ?_
        refine lv_if_eq (tgt := 66) hx hb dX9_closed_14 (by decide) (fun c3 => ?_) (fun c3 => ?_)
        · have h := ifp h c3
          refine lv_iinc (v := y3 + (-1)) (lv' := [(3, .int (y3 + (-1))), (0, .ref a_z), (2, .int y2)]) hx hb dX9_closed_66 hl (k := 2) rfl rfl (by decide) rfl (fun ls hl => ?_)
          refine lv_goto (tgt := 5) hx hb dX9_closed_69 (by decide) ?_
          exact ih y2 (y3 + (-1)) h ls (lv_sub (l' := [(0, .ref a_z), (2, .int y2), (3, .int (y3 + (-1)))]) hl [1, 2, 0] rfl)
        · have h := ifn h c3
          refine lv_iload_n hx hb dX9_closed_17 rfl (lv_at hl 1 rfl) ?_
          refine lv_aload_n hx hb dX9_closed_18 rfl (lv_at hl 0 rfl) ?_
          refine va_get (D := D) (ci := 9) (v := .ref a_z_s) (C := RX9) (T := TX9) (N := 13) hx hb hts hinX9 hown hKK.1 hP 0 rfl rfl 0 (by decide) lk7 (fun _ h9 => h9) rfl dX9_closed_19 ?_
          refine lv_iconst (v := 1) hx hb dX9_closed_22 (by decide) ?_
          refine lv_iconst (v := 3) hx hb dX9_closed_23 (by decide) ?_
          refine lv_iload_n hx hb dX9_closed_24 rfl (lv_at hl 2 rfl) ?_
          refine lv_imul hx hb dX9_closed_25 ?_
          refine lv_iadd hx hb dX9_closed_26 ?_
          refine lv_iconst (v := 2) hx hb dX9_closed_27 (by decide) ?_
          refine lv_iadd hx hb dX9_closed_28 ?_
          obtain ⟨v4, iv4, ev4, h⟩ := rd_some h
          refine kAld hx hb hKK hP 1 rfl iv4 ev4 dX9_closed_29 ?_
          refine lv_aload_n hx hb dX9_closed_30 rfl (lv_at hl 0 rfl) ?_
          refine va_get (D := D) (ci := 9) (v := .ref a_z_s) (C := RX9) (T := TX9) (N := 13) hx hb hts hinX9 hown hKK.1 hP 0 rfl rfl 0 (by decide) lk7 (fun _ h9 => h9) rfl dX9_closed_31 ?_
          refine lv_iconst (v := 1) hx hb dX9_closed_34 (by decide) ?_
          refine lv_iconst (v := 3) hx hb dX9_closed_35 (by decide) ?_
          refine lv_iload_n hx hb dX9_closed_36 rfl (lv_at hl 2 rfl) ?_
          refine lv_imul hx hb dX9_closed_37 ?_
          refine lv_iadd hx hb dX9_closed_38 ?_
          refine lv_iconst (v := 1) hx hb dX9_closed_39 (by decide) ?_
          refine lv_iadd hx hb dX9_closed_40 ?_
          obtain ⟨v5, iv5, ev5, h⟩ := rd_some h
          refine kAld hx hb hKK hP 1 rfl iv5 ev5 dX9_closed_41 ?_
          refine lv_if_ge (tgt := 49) hx hb dX9_closed_42 (by decide) (fun c6 => ?_) (fun c6 => ?_)
          · have h := ifp h c6
            refine lv_iconst (v := 1) hx hb dX9_closed_49 (by decide) ?_
            refine lv_aload_n hx hb dX9_closed_50 rfl (lv_at hl 0 rfl) ?_
            refine va_get (D := D) (ci := 9) (v := .ref a_z_s) (C := RX9) (T := TX9) (N := 13) hx hb hts hinX9 hown hKK.1 hP 0 rfl rfl 0 (by decide) lk7 (fun _ h9 => h9) rfl dX9_closed_51 ?_
            refine lv_iconst (v := 1) hx hb dX9_closed_54 (by decide) ?_
            refine lv_iconst (v := 3) hx hb dX9_closed_55 (by decide) ?_
            refine lv_iload_n hx hb dX9_closed_56 rfl (lv_at hl 2 rfl) ?_
            refine lv_imul hx hb dX9_closed_57 ?_
            refine lv_iadd hx hb dX9_closed_58 ?_
            refine lv_iconst (v := 1) hx hb dX9_closed_59 (by decide) ?_
            refine lv_iadd hx hb dX9_closed_60 ?_
            obtain ⟨v7, iv7, ev7, h⟩ := rd_some h
            refine kAld hx hb hKK hP 1 rfl iv7 ev7 dX9_closed_61 ?_
            refine lv_ishl hx hb dX9_closed_62 ?_
            exact F63 (fun u2 u3 => lX9_closed_5 z_s n u2 u3) (fun u2 u3 h ls hl => ih u2 u3 h ls hl) y3 y2 v4 (1 <<< (v7 &&& 31)) h ls (lv_sub (l' := [(0, .ref a_z), (3, .int y3)]) hl [0, 2] rfl)
          · have h := ifn h c6
            refine lv_iconst (v := 0) hx hb dX9_closed_45 (by decide) ?_
            refine lv_goto (tgt := 63) hx hb dX9_closed_46 (by decide) ?_
            exact F63 (fun u2 u3 => lX9_closed_5 z_s n u2 u3) (fun u2 u3 h ls hl => ih u2 u3 h ls hl) y3 y2 v4 0 h ls (lv_sub (l' := [(0, .ref a_z), (3, .int y3)]) hl [0, 2] rfl)
  unfold fX9_closed at h
  refine lv_iload_n hx hb dX9_closed_0 rfl (lv_at hl 1 rfl) ?_
  refine lv_istore_n (lv' := [(2, .int x1), (0, .ref a_z), (1, .int x1)]) hx hb dX9_closed_1 rfl hl (by decide) rfl (fun ls hl => ?_)
  refine lv_bipush (v := 7) hx hb dX9_closed_2 (by decide) ?_
  refine lv_istore_n (lv' := [(3, .int 7), (2, .int x1), (0, .ref a_z), (1, .int x1)]) hx hb dX9_closed_4 rfl hl (by decide) rfl (fun ls hl => ?_)
  exact F5 5000 x1 7 h ls (lv_sub (l' := [(0, .ref a_z), (2, .int x1), (3, .int 7)]) hl [2, 1, 0] rfl)
set_option maxHeartbeats 8000000 in
set_option maxRecDepth 100000 in
theorem qX9_supers (l : Launch) (D : va_G) (cI cM : ClassId) (a_z a_z_s a_z_past a_z_keeps a_z_entryKey a_z_entryDefault a_z_held a_z_values a_z_kinds a_z_news : Nat) (z_s : Nat → Int32) (z_past : Nat → Int32) (z_pasts : Int32) (z_changed : Int32) (z_entries : Int32) (z_keeps : Nat → Int32) (z_entryKey : Nat → Int32) (z_entryDefault : Nat → Int32) (z_counter : Int32) (z_held : Nat → Int32) (z_values : Nat → Int32) (z_kinds : Nat → Int32) (z_news : Nat → Int32) (x1 : Int32) (r : Int32) (h : fX9_supers z_s x1 = some r) : PM l yX9_supers wsX9_supers rmX9_supers D cI cM [.ref a_z, .int x1] (W_z cI cM a_z a_z_s a_z_past a_z_keeps a_z_entryKey a_z_entryDefault a_z_held a_z_values a_z_kinds a_z_news z_s z_past z_pasts z_changed z_entries z_keeps z_entryKey z_entryDefault z_counter z_held z_values z_kinds z_news) r := by
  refine PM.of (cc := cX9_supers) (maxL := 2) (ret := (some .int)) (by decide) rfl (Nat.le_of_ble_eq_true rfl) ?_
  intro p e s m below meth c ls hx hb hr hml hown hts hlk hP hKK hl
  have hown : s.vm.findClass RX9 = some m.cls := hown
  have hl : lv_has ls 2 [(0, .ref a_z), (1, .int x1)] := hl
  generalize hav : ([.ref a_z, .int x1] : List Value) = av at hts ⊢
  have SS : CallFix p m c cX9_supers 2 s av.toArray wsX9_supers RX9 := ⟨hx, hb, hml, hown, hts⟩
  have cw52 : CallW rmX9_supers s av.toArray RX9 RX9 52 yX9_closed cX9_closed 4 (some .int) wsX9_closed rmX9_closed 0 0 1 := cwV 1 hts gX9_supers_X9_closed rfl rfl rfl (by decide +kernel) ⟨Nat.le_of_ble_eq_true rfl, Nat.le_of_ble_eq_true rfl⟩
  unfold fX9_supers at h
  refine lv_aload_n hx hb dX9_supers_0 rfl (lv_at hl 0 rfl) ?_
  refine lv_iconst (v := 1) hx hb dX9_supers_1 (by decide) ?_
  refine lv_iload_n hx hb dX9_supers_2 rfl (lv_at hl 1 rfl) ?_
  refine lv_ishl hx hb dX9_supers_3 ?_
  obtain ⟨v1, ev1, h⟩ := bn_some h
  have hs2 : va_P D vwCl (W_z cI cM a_z a_z_s a_z_past a_z_keeps a_z_entryKey a_z_entryDefault a_z_held a_z_values a_z_kinds a_z_news z_s z_past z_pasts z_changed z_entries z_keeps z_entryKey z_entryDefault z_counter z_held z_values z_kinds z_news) _ := hP.sub (ws' := W_z cI cM a_z a_z_s a_z_past a_z_keeps a_z_entryKey a_z_entryDefault a_z_held a_z_values a_z_kinds a_z_news z_s z_past z_pasts z_changed z_entries z_keeps z_entryKey z_entryDefault z_counter z_held z_values z_kinds z_news) [0, 1, 2, 3, 4, 5, 6, 7, 8, 9] rfl
  refine kV (As := [.int (1 <<< (x1 &&& 31))]) (rest := []) SS hKK (qX9_closed l D cI cM a_z a_z_s a_z_past a_z_keeps a_z_entryKey a_z_entryDefault a_z_held a_z_values a_z_kinds a_z_news z_s z_past z_pasts z_changed z_entries z_keeps z_entryKey z_entryDefault z_counter z_held z_values z_kinds z_news (1 <<< (x1 &&& 31)) v1 ev1) cw52 hs2 0 9 rfl rfl rfl hl.1 rfl (Nat.le_of_ble_eq_true rfl) dX9_supers_4 ⟨Nat.zero_le _, Nat.zero_le _⟩ ?_
  exact kRet hx hb hr hlk (Option.some.inj h) dX9_supers_7
set_option maxHeartbeats 8000000 in
set_option maxRecDepth 100000 in
theorem qX9_areConnected (l : Launch) (D : va_G) (cI cM : ClassId) (a_z a_z_s a_z_past a_z_keeps a_z_entryKey a_z_entryDefault a_z_held a_z_values a_z_kinds a_z_news : Nat) (z_s : Nat → Int32) (z_past : Nat → Int32) (z_pasts : Int32) (z_changed : Int32) (z_entries : Int32) (z_keeps : Nat → Int32) (z_entryKey : Nat → Int32) (z_entryDefault : Nat → Int32) (z_counter : Int32) (z_held : Nat → Int32) (z_values : Nat → Int32) (z_kinds : Nat → Int32) (z_news : Nat → Int32) (x1 : Int32) (x2 : Int32) (r : Int32) (h : fX9_areConnected z_s x1 x2 = some r) : PM l yX9_areConnected wsX9_areConnected rmX9_areConnected D cI cM [.ref a_z, .int x1, .int x2] (W_z cI cM a_z a_z_s a_z_past a_z_keeps a_z_entryKey a_z_entryDefault a_z_held a_z_values a_z_kinds a_z_news z_s z_past z_pasts z_changed z_entries z_keeps z_entryKey z_entryDefault z_counter z_held z_values z_kinds z_news) r := by
  refine PM.of (cc := cX9_areConnected) (maxL := 5) (ret := (some .boolean)) (by decide) rfl (Nat.le_of_ble_eq_true rfl) ?_
  intro p e s m below meth c ls hx hb hr hml hown hts hlk hP hKK hl
  have hown : s.vm.findClass RX9 = some m.cls := hown
  have hl : lv_has ls 5 [(0, .ref a_z), (1, .int x1), (2, .int x2)] := hl
  generalize hav : ([.ref a_z, .int x1, .int x2] : List Value) = av at hts ⊢
  have SS : CallFix p m c cX9_areConnected 5 s av.toArray wsX9_areConnected RX9 := ⟨hx, hb, hml, hown, hts⟩
  have hinX9 : ∀ w ∈ u_ws RX9 TX9 13, w ∈ wsX9_areConnected := by decide +kernel
  have lk7 := hts (.fieldLink RX9 7 "SignatureChangerModel" "s" "[I") (List.mem_of_getElem? (i := 1) rfl)
  have cw48 : CallB rmX9_areConnected s av.toArray RX9 48 yX9_has cX9_has 2 (some .boolean) wsX9_has rmX9_has 0 0 2 ∧ (Cond.static yX9_has).before av.toArray s = true := va_cwS 2 hts gX9_areConnected_X9_has rfl rfl rfl (by decide +kernel) ⟨Nat.le_of_ble_eq_true rfl, Nat.le_of_ble_eq_true rfl⟩
  have cw56 : CallW rmX9_areConnected s av.toArray RX9 RX9 56 yX9_supers cX9_supers 2 (some .int) wsX9_supers rmX9_supers 0 0 1 := cwV 1 hts gX9_areConnected_X9_supers rfl rfl rfl (by decide +kernel) ⟨Nat.le_of_ble_eq_true rfl, Nat.le_of_ble_eq_true rfl⟩
  have F51 : ∀ (k5 : Int32 → Int32 → Int32 → Int32 → Option (Int32)) (hk5 : ∀ (u1 : Int32) (u2 : Int32) (u3 : Int32) (u4 : Int32), k5 u1 u2 u3 u4 = some r → ∀ ls : Array Slot, lv_has ls 5 [(0, .ref a_z), (1, .int u1), (2, .int u2), (3, .int u3), (4, .int u4)] → WP p l e rmX9_areConnected s m av below meth c r 5 ls []), ∀ (y1 : Int32) (y2 : Int32) (y4 : Int32) (s0 : Int32), jX9_areConnected_51 z_s k5 y1 y2 y4 s0 = some r → ∀ ls : Array Slot, lv_has ls 5 [(0, .ref a_z), (1, .int y1), (2, .int y2), (4, .int y4)] → WP p l e rmX9_areConnected s m av below meth c r 51 ls [.int s0] := by
    intro k5 hk5
    intro y1 y2 y4 s0 h ls hl
    unfold jX9_areConnected_51 at h
    refine lv_istore_n (lv' := [(3, .int s0), (0, .ref a_z), (1, .int y1), (2, .int y2), (4, .int y4)]) hx hb dX9_areConnected_51 rfl hl (by decide) rfl (fun ls hl => ?_)
    refine lv_iinc (v := y4 + 1) (lv' := [(4, .int (y4 + 1)), (3, .int s0), (0, .ref a_z), (1, .int y1), (2, .int y2)]) hx hb dX9_areConnected_52 hl (k := 4) rfl rfl (by decide) rfl (fun ls hl => ?_)
    refine lv_goto (tgt := 5) hx hb dX9_areConnected_55 (by decide) ?_
    exact hk5 y1 y2 s0 (y4 + 1) h ls (lv_sub (l' := [(0, .ref a_z), (1, .int y1), (2, .int y2), (3, .int s0), (4, .int (y4 + 1))]) hl [2, 3, 4, 1, 0] rfl)
  have F46 : ∀ (k5 : Int32 → Int32 → Int32 → Int32 → Option (Int32)) (hk5 : ∀ (u1 : Int32) (u2 : Int32) (u3 : Int32) (u4 : Int32), k5 u1 u2 u3 u4 = some r → ∀ ls : Array Slot, lv_has ls 5 [(0, .ref a_z), (1, .int u1), (2, .int u2), (3, .int u3), (4, .int u4)] → WP p l e rmX9_areConnected s m av below meth c r 5 ls []), ∀ (y1 : Int32) (y2 : Int32) (y4 : Int32), jX9_areConnected_46 z_s k5 y1 y2 y4 = some r → ∀ ls : Array Slot, lv_has ls 5 [(0, .ref a_z), (1, .int y1), (2, .int y2), (4, .int y4)] → WP p l e rmX9_areConnected s m av below meth c r 46 ls [] := by
    intro k5 hk5
    intro y1 y2 y4 h ls hl
    unfold jX9_areConnected_46 at h
    refine lv_iconst (v := 1) hx hb dX9_areConnected_46 (by decide) ?_
    refine lv_goto (tgt := 51) hx hb dX9_areConnected_47 (by decide) ?_
    exact F51 k5 hk5 y1 y2 y4 1 h ls (lv_sub (l' := [(0, .ref a_z), (1, .int y1), (2, .int y2), (4, .int y4)]) hl [0, 1, 2, 3] rfl)
  have F50 : ∀ (k5 : Int32 → Int32 → Int32 → Int32 → Option (Int32)) (hk5 : ∀ (u1 : Int32) (u2 : Int32) (u3 : Int32) (u4 : Int32), k5 u1 u2 u3 u4 = some r → ∀ ls : Array Slot, lv_has ls 5 [(0, .ref a_z), (1, .int u1), (2, .int u2), (3, .int u3), (4, .int u4)] → WP p l e rmX9_areConnected s m av below meth c r 5 ls []), ∀ (y1 : Int32) (y2 : Int32) (y4 : Int32), jX9_areConnected_50 z_s k5 y1 y2 y4 = some r → ∀ ls : Array Slot, lv_has ls 5 [(0, .ref a_z), (1, .int y1), (2, .int y2), (4, .int y4)] → WP p l e rmX9_areConnected s m av below meth c r 50 ls [] := by
    intro k5 hk5
    intro y1 y2 y4 h ls hl
    unfold jX9_areConnected_50 at h
    refine lv_iconst (v := 0) hx hb dX9_areConnected_50 (by decide) ?_
    exact F51 k5 hk5 y1 y2 y4 0 h ls (lv_sub (l' := [(0, .ref a_z), (1, .int y1), (2, .int y2), (4, .int y4)]) hl [0, 1, 2, 3] rfl)
  have F5 : ∀ (n : Nat) (y1 : Int32) (y2 : Int32) (y3 : Int32) (y4 : Int32), lX9_areConnected_5 z_s n y1 y2 y3 y4 = some r → ∀ ls : Array Slot, lv_has ls 5 [(0, .ref a_z), (1, .int y1), (2, .int y2), (3, .int y3), (4, .int y4)] → WP p l e rmX9_areConnected s m av below meth c r 5 ls [] := by
    intro n
    induction n with
    | zero => intro y1 y2 y3 y4 h; exact no_some h
    | succ n ih =>
      intro y1 y2 y3 y4 h ls hl
      rw [lX9_areConnected_5_s] at h
      refine lv_iload hx hb dX9_areConnected_5 (lv_at hl 4 rfl) ?_
      refine lv_aload_n hx hb dX9_areConnected_7 rfl (lv_at hl 0 rfl) ?_
      refine va_get (D := D) (ci := 9) (v := .ref a_z_s) (C := RX9) (T := TX9) (N := 13) hx hb hts hinX9 hown hKK.1 hP 0 rfl rfl 0 (by decide) lk7 (fun _ h9 => h9) rfl dX9_areConnected_8 ?_
      refine lv_iconst (v := 0) hx hb dX9_areConnected_11 (by decide) ?_
      obtain ⟨v1, iv1, ev1, h⟩ := rd_some h
      refine kAld hx hb hKK hP 1 rfl iv1 ev1 dX9_areConnected_12 ?_
      refine lv_icmp_ge (tgt := 58) hx hb dX9_areConnected_13 (by decide) (fun c2 => ?_) (fun c2 => ?_)
      · have h := ifp h c2
        refine lv_iload_n hx hb dX9_areConnected_58 rfl (lv_at hl 3 rfl) ?_
        exact kRetZ hx hb hr hlk (rb_some h).2 (rb_some h).1 dX9_areConnected_59
      · have h := ifn h c2
        refine lv_iload_n hx hb dX9_areConnected_16 rfl (lv_at hl 3 rfl) ?_
        refine lv_if_ne (tgt := 46) hx hb dX9_areConnected_17 (by decide) (fun c3 => ?_) (fun c3 => ?_)
        · have h := ifn h c3
          exact F46 (fun u1 u2 u3 u4 => lX9_areConnected_5 z_s n u1 u2 u3 u4) (fun u1 u2 u3 u4 h ls hl => ih u1 u2 u3 u4 h ls hl) y1 y2 y4 h ls (lv_sub (l' := [(0, .ref a_z), (1, .int y1), (2, .int y2), (4, .int y4)]) hl [0, 1, 2, 4] rfl)
        · have h := ifp h c3
          refine lv_aload_n hx hb dX9_areConnected_20 rfl (lv_at hl 0 rfl) ?_
          refine lv_iload hx hb dX9_areConnected_21 (lv_at hl 4 rfl) ?_
          obtain ⟨v4, ev4, h⟩ := bn_some h
          have hs5 : va_P D vwCl (W_z cI cM a_z a_z_s a_z_past a_z_keeps a_z_entryKey a_z_entryDefault a_z_held a_z_values a_z_kinds a_z_news z_s z_past z_pasts z_changed z_entries z_keeps z_entryKey z_entryDefault z_counter z_held z_values z_kinds z_news) _ := hP.sub (ws' := W_z cI cM a_z a_z_s a_z_past a_z_keeps a_z_entryKey a_z_entryDefault a_z_held a_z_values a_z_kinds a_z_news z_s z_past z_pasts z_changed z_entries z_keeps z_entryKey z_entryDefault z_counter z_held z_values z_kinds z_news) [0, 1, 2, 3, 4, 5, 6, 7, 8, 9] rfl
          refine kV (As := [.int y4]) (rest := []) SS hKK (qX9_supers l D cI cM a_z a_z_s a_z_past a_z_keeps a_z_entryKey a_z_entryDefault a_z_held a_z_values a_z_kinds a_z_news z_s z_past z_pasts z_changed z_entries z_keeps z_entryKey z_entryDefault z_counter z_held z_values z_kinds z_news y4 v4 ev4) cw56 hs5 0 9 rfl rfl rfl hl.1 rfl (Nat.le_of_ble_eq_true rfl) dX9_areConnected_23 ⟨Nat.zero_le _, Nat.zero_le _⟩ ?_
          refine lv_iload_n hx hb dX9_areConnected_26 rfl (lv_at hl 1 rfl) ?_
          obtain ⟨v6, ev6, h⟩ := bn_some h
          refine kS (As := [.int v4, .int y1]) (rest := []) SS hKK (qX9_has l D cI cM v4 y1 v6 ev6) cw48 va_P_nil rfl hl.1 rfl (Nat.le_of_ble_eq_true rfl) dX9_areConnected_27 ⟨Nat.zero_le _, Nat.zero_le _⟩ ?_
          refine lv_if_eq (tgt := 50) hx hb dX9_areConnected_30 (by decide) (fun c7 => ?_) (fun c7 => ?_)
          · have h := ifp h c7
            exact F50 (fun u1 u2 u3 u4 => lX9_areConnected_5 z_s n u1 u2 u3 u4) (fun u1 u2 u3 u4 h ls hl => ih u1 u2 u3 u4 h ls hl) y1 y2 y4 h ls (lv_sub (l' := [(0, .ref a_z), (1, .int y1), (2, .int y2), (4, .int y4)]) hl [0, 1, 2, 4] rfl)
          · have h := ifn h c7
            refine lv_aload_n hx hb dX9_areConnected_33 rfl (lv_at hl 0 rfl) ?_
            refine lv_iload hx hb dX9_areConnected_34 (lv_at hl 4 rfl) ?_
            obtain ⟨v8, ev8, h⟩ := bn_some h
            refine kV (As := [.int y4]) (rest := []) SS hKK (qX9_supers l D cI cM a_z a_z_s a_z_past a_z_keeps a_z_entryKey a_z_entryDefault a_z_held a_z_values a_z_kinds a_z_news z_s z_past z_pasts z_changed z_entries z_keeps z_entryKey z_entryDefault z_counter z_held z_values z_kinds z_news y4 v8 ev8) cw56 hs5 0 9 rfl rfl rfl hl.1 rfl (Nat.le_of_ble_eq_true rfl) dX9_areConnected_36 ⟨Nat.zero_le _, Nat.zero_le _⟩ ?_
            refine lv_iload_n hx hb dX9_areConnected_39 rfl (lv_at hl 2 rfl) ?_
            obtain ⟨v9, ev9, h⟩ := bn_some h
            refine kS (As := [.int v8, .int y2]) (rest := []) SS hKK (qX9_has l D cI cM v8 y2 v9 ev9) cw48 va_P_nil rfl hl.1 rfl (Nat.le_of_ble_eq_true rfl) dX9_areConnected_40 ⟨Nat.zero_le _, Nat.zero_le _⟩ ?_
            refine lv_if_eq (tgt := 50) hx hb dX9_areConnected_43 (by decide) (fun c10 => ?_) (fun c10 => ?_)
            · have h := ifp h c10
              exact F50 (fun u1 u2 u3 u4 => lX9_areConnected_5 z_s n u1 u2 u3 u4) (fun u1 u2 u3 u4 h ls hl => ih u1 u2 u3 u4 h ls hl) y1 y2 y4 h ls (lv_sub (l' := [(0, .ref a_z), (1, .int y1), (2, .int y2), (4, .int y4)]) hl [0, 1, 2, 4] rfl)
            · have h := ifn h c10
              exact F46 (fun u1 u2 u3 u4 => lX9_areConnected_5 z_s n u1 u2 u3 u4) (fun u1 u2 u3 u4 h ls hl => ih u1 u2 u3 u4 h ls hl) y1 y2 y4 h ls (lv_sub (l' := [(0, .ref a_z), (1, .int y1), (2, .int y2), (4, .int y4)]) hl [0, 1, 2, 4] rfl)
  unfold fX9_areConnected at h
  refine lv_iconst (v := 0) hx hb dX9_areConnected_0 (by decide) ?_
  refine lv_istore_n (lv' := [(3, .int 0), (0, .ref a_z), (1, .int x1), (2, .int x2)]) hx hb dX9_areConnected_1 rfl hl (by decide) rfl (fun ls hl => ?_)
  refine lv_iconst (v := 0) hx hb dX9_areConnected_2 (by decide) ?_
  refine lv_istore (lv' := [(4, .int 0), (3, .int 0), (0, .ref a_z), (1, .int x1), (2, .int x2)]) hx hb dX9_areConnected_3 hl (by decide) rfl (fun ls hl => ?_)
  exact F5 5000 x1 x2 0 0 h ls (lv_sub (l' := [(0, .ref a_z), (1, .int x1), (2, .int x2), (3, .int 0), (4, .int 0)]) hl [2, 3, 4, 1, 0] rfl)
set_option maxHeartbeats 8000000 in
set_option maxRecDepth 100000 in
theorem qX9_allInterfaces (l : Launch) (D : va_G) (cI cM : ClassId) (a_z a_z_s a_z_past a_z_keeps a_z_entryKey a_z_entryDefault a_z_held a_z_values a_z_kinds a_z_news : Nat) (z_s : Nat → Int32) (z_past : Nat → Int32) (z_pasts : Int32) (z_changed : Int32) (z_entries : Int32) (z_keeps : Nat → Int32) (z_entryKey : Nat → Int32) (z_entryDefault : Nat → Int32) (z_counter : Int32) (z_held : Nat → Int32) (z_values : Nat → Int32) (z_kinds : Nat → Int32) (z_news : Nat → Int32) (r : Int32) (h : fX9_allInterfaces z_s = some r) : PM l yX9_allInterfaces wsX9_allInterfaces rmX9_allInterfaces D cI cM [.ref a_z] (W_z cI cM a_z a_z_s a_z_past a_z_keeps a_z_entryKey a_z_entryDefault a_z_held a_z_values a_z_kinds a_z_news z_s z_past z_pasts z_changed z_entries z_keeps z_entryKey z_entryDefault z_counter z_held z_values z_kinds z_news) r := by
  refine PM.of (cc := cX9_allInterfaces) (maxL := 3) (ret := (some .int)) (by decide) rfl (Nat.le_of_ble_eq_true rfl) ?_
  intro p e s m below meth c ls hx hb hr hml hown hts hlk hP hKK hl
  have hown : s.vm.findClass RX9 = some m.cls := hown
  have hl : lv_has ls 3 [(0, .ref a_z)] := hl
  generalize hav : ([.ref a_z] : List Value) = av at hts ⊢
  have SS : CallFix p m c cX9_allInterfaces 3 s av.toArray wsX9_allInterfaces RX9 := ⟨hx, hb, hml, hown, hts⟩
  have hinX9 : ∀ w ∈ u_ws RX9 TX9 13, w ∈ wsX9_allInterfaces := by decide +kernel
  have lk7 := hts (.fieldLink RX9 7 "SignatureChangerModel" "s" "[I") (List.mem_of_getElem? (i := 1) rfl)
  have cw59 : CallW rmX9_allInterfaces s av.toArray RX9 RX9 59 yX9_isInterface cX9_isInterface 2 (some .boolean) wsX9_isInterface rmX9_isInterface 0 0 1 := cwV 1 hts gX9_allInterfaces_X9_isInterface rfl rfl rfl (by decide +kernel) ⟨Nat.le_of_ble_eq_true rfl, Nat.le_of_ble_eq_true rfl⟩
  have F30 : ∀ (k4 : Int32 → Int32 → Option (Int32)) (hk4 : ∀ (u1 : Int32) (u2 : Int32), k4 u1 u2 = some r → ∀ ls : Array Slot, lv_has ls 3 [(0, .ref a_z), (1, .int u1), (2, .int u2)] → WP p l e rmX9_allInterfaces s m av below meth c r 4 ls []), ∀ (y2 : Int32) (s0 : Int32) (s1 : Int32), jX9_allInterfaces_30 z_s k4 y2 s0 s1 = some r → ∀ ls : Array Slot, lv_has ls 3 [(0, .ref a_z), (2, .int y2)] → WP p l e rmX9_allInterfaces s m av below meth c r 30 ls [.int s1, .int s0] := by
    intro k4 hk4
    intro y2 s0 s1 h ls hl
    unfold jX9_allInterfaces_30 at h
    refine lv_ior hx hb dX9_allInterfaces_30 ?_
    refine lv_istore_n (lv' := [(1, .int (s0 ||| s1)), (0, .ref a_z), (2, .int y2)]) hx hb dX9_allInterfaces_31 rfl hl (by decide) rfl (fun ls hl => ?_)
    refine lv_iinc (v := y2 + 1) (lv' := [(2, .int (y2 + 1)), (1, .int (s0 ||| s1)), (0, .ref a_z)]) hx hb dX9_allInterfaces_32 hl (k := 2) rfl rfl (by decide) rfl (fun ls hl => ?_)
    refine lv_goto (tgt := 4) hx hb dX9_allInterfaces_35 (by decide) ?_
    exact hk4 (s0 ||| s1) (y2 + 1) h ls (lv_sub (l' := [(0, .ref a_z), (1, .int (s0 ||| s1)), (2, .int (y2 + 1))]) hl [2, 1, 0] rfl)
  have F4 : ∀ (n : Nat) (y1 : Int32) (y2 : Int32), lX9_allInterfaces_4 z_s n y1 y2 = some r → ∀ ls : Array Slot, lv_has ls 3 [(0, .ref a_z), (1, .int y1), (2, .int y2)] → WP p l e rmX9_allInterfaces s m av below meth c r 4 ls [] := by
    intro n
    induction n with
    | zero => intro y1 y2 h; exact no_some h
    | succ n ih =>
      intro y1 y2 h ls hl
      rw [lX9_allInterfaces_4_s] at h
      refine lv_iload_n hx hb dX9_allInterfaces_4 rfl (lv_at hl 2 rfl) ?_
      refine lv_aload_n hx hb dX9_allInterfaces_5 rfl (lv_at hl 0 rfl) ?_
      refine va_get (D := D) (ci := 9) (v := .ref a_z_s) (C := RX9) (T := TX9) (N := 13) hx hb hts hinX9 hown hKK.1 hP 0 rfl rfl 0 (by decide) lk7 (fun _ h9 => h9) rfl dX9_allInterfaces_6 ?_
      refine lv_iconst (v := 0) hx hb dX9_allInterfaces_9 (by decide) ?_
      obtain ⟨v1, iv1, ev1, h⟩ := rd_some h
      refine kAld hx hb hKK hP 1 rfl iv1 ev1 dX9_allInterfaces_10 ?_
      refine lv_icmp_ge (tgt := 38) hx hb dX9_allInterfaces_11 (by decide) (fun c2 => ?_) (fun c2 => ?_)
      · have h := ifp h c2
        refine lv_iload_n hx hb dX9_allInterfaces_38 rfl (lv_at hl 1 rfl) ?_
        exact kRet hx hb hr hlk (Option.some.inj h) dX9_allInterfaces_39
      · have h := ifn h c2
        refine lv_iload_n hx hb dX9_allInterfaces_14 rfl (lv_at hl 1 rfl) ?_
        refine lv_aload_n hx hb dX9_allInterfaces_15 rfl (lv_at hl 0 rfl) ?_
        refine lv_iload_n hx hb dX9_allInterfaces_16 rfl (lv_at hl 2 rfl) ?_
        obtain ⟨v3, ev3, h⟩ := bn_some h
        have hs4 : va_P D vwCl (W_z cI cM a_z a_z_s a_z_past a_z_keeps a_z_entryKey a_z_entryDefault a_z_held a_z_values a_z_kinds a_z_news z_s z_past z_pasts z_changed z_entries z_keeps z_entryKey z_entryDefault z_counter z_held z_values z_kinds z_news) _ := hP.sub (ws' := W_z cI cM a_z a_z_s a_z_past a_z_keeps a_z_entryKey a_z_entryDefault a_z_held a_z_values a_z_kinds a_z_news z_s z_past z_pasts z_changed z_entries z_keeps z_entryKey z_entryDefault z_counter z_held z_values z_kinds z_news) [0, 1, 2, 3, 4, 5, 6, 7, 8, 9] rfl
        refine kV (As := [.int y2]) (rest := [.int y1]) SS hKK (qX9_isInterface l D cI cM a_z a_z_s a_z_past a_z_keeps a_z_entryKey a_z_entryDefault a_z_held a_z_values a_z_kinds a_z_news z_s z_past z_pasts z_changed z_entries z_keeps z_entryKey z_entryDefault z_counter z_held z_values z_kinds z_news y2 v3 ev3) cw59 hs4 0 9 rfl rfl rfl hl.1 rfl (Nat.le_of_ble_eq_true rfl) dX9_allInterfaces_17 ⟨Nat.zero_le _, Nat.zero_le _⟩ ?_
        refine lv_if_eq (tgt := 29) hx hb dX9_allInterfaces_20 (by decide) (fun c5 => ?_) (fun c5 => ?_)
        · have h := ifp h c5
          refine lv_iconst (v := 0) hx hb dX9_allInterfaces_29 (by decide) ?_
          exact F30 (fun u1 u2 => lX9_allInterfaces_4 z_s n u1 u2) (fun u1 u2 h ls hl => ih u1 u2 h ls hl) y2 y1 0 h ls (lv_sub (l' := [(0, .ref a_z), (2, .int y2)]) hl [0, 2] rfl)
        · have h := ifn h c5
          refine lv_iconst (v := 1) hx hb dX9_allInterfaces_23 (by decide) ?_
          refine lv_iload_n hx hb dX9_allInterfaces_24 rfl (lv_at hl 2 rfl) ?_
          refine lv_ishl hx hb dX9_allInterfaces_25 ?_
          refine lv_goto (tgt := 30) hx hb dX9_allInterfaces_26 (by decide) ?_
          exact F30 (fun u1 u2 => lX9_allInterfaces_4 z_s n u1 u2) (fun u1 u2 h ls hl => ih u1 u2 h ls hl) y2 y1 (1 <<< (y2 &&& 31)) h ls (lv_sub (l' := [(0, .ref a_z), (2, .int y2)]) hl [0, 2] rfl)
  unfold fX9_allInterfaces at h
  refine lv_iconst (v := 0) hx hb dX9_allInterfaces_0 (by decide) ?_
  refine lv_istore_n (lv' := [(1, .int 0), (0, .ref a_z)]) hx hb dX9_allInterfaces_1 rfl hl (by decide) rfl (fun ls hl => ?_)
  refine lv_iconst (v := 0) hx hb dX9_allInterfaces_2 (by decide) ?_
  refine lv_istore_n (lv' := [(2, .int 0), (1, .int 0), (0, .ref a_z)]) hx hb dX9_allInterfaces_3 rfl hl (by decide) rfl (fun ls hl => ?_)
  exact F4 5000 0 0 h ls (lv_sub (l' := [(0, .ref a_z), (1, .int 0), (2, .int 0)]) hl [2, 1, 0] rfl)
set_option maxHeartbeats 8000000 in
set_option maxRecDepth 100000 in
theorem qX9_of (l : Launch) (D : va_G) (cI cM : ClassId) (a_z a_z_s a_z_past a_z_keeps a_z_entryKey a_z_entryDefault a_z_held a_z_values a_z_kinds a_z_news : Nat) (z_s : Nat → Int32) (z_past : Nat → Int32) (z_pasts : Int32) (z_changed : Int32) (z_entries : Int32) (z_keeps : Nat → Int32) (z_entryKey : Nat → Int32) (z_entryDefault : Nat → Int32) (z_counter : Int32) (z_held : Nat → Int32) (z_values : Nat → Int32) (z_kinds : Nat → Int32) (z_news : Nat → Int32) (x1 : Int32) (x2 : Int32) (r : Int32) (h : fX9_of z_s x1 x2 = some r) : PM l yX9_of wsX9_of rmX9_of D cI cM [.ref a_z, .int x1, .int x2] (W_z cI cM a_z a_z_s a_z_past a_z_keeps a_z_entryKey a_z_entryDefault a_z_held a_z_values a_z_kinds a_z_news z_s z_past z_pasts z_changed z_entries z_keeps z_entryKey z_entryDefault z_counter z_held z_values z_kinds z_news) r := by
  refine PM.of (cc := cX9_of) (maxL := 3) (ret := (some .int)) (by decide) rfl (Nat.le_of_ble_eq_true rfl) ?_
  intro p e s m below meth c ls hx hb hr hml hown hts hlk hP hKK hl
  have hown : s.vm.findClass RX9 = some m.cls := hown
  have hl : lv_has ls 3 [(0, .ref a_z), (1, .int x1), (2, .int x2)] := hl
  generalize hav : ([.ref a_z, .int x1, .int x2] : List Value) = av at hts ⊢
  have SS : CallFix p m c cX9_of 3 s av.toArray wsX9_of RX9 := ⟨hx, hb, hml, hown, hts⟩
  have hinX9 : ∀ w ∈ u_ws RX9 TX9 13, w ∈ wsX9_of := by decide +kernel
  have lk7 := hts (.fieldLink RX9 7 "SignatureChangerModel" "s" "[I") (List.mem_of_getElem? (i := 1) rfl)
  unfold fX9_of at h
  refine lv_aload_n hx hb dX9_of_0 rfl (lv_at hl 0 rfl) ?_
  refine va_get (D := D) (ci := 9) (v := .ref a_z_s) (C := RX9) (T := TX9) (N := 13) hx hb hts hinX9 hown hKK.1 hP 0 rfl rfl 0 (by decide) lk7 (fun _ h9 => h9) rfl dX9_of_1 ?_
  refine lv_bipush (v := 26) hx hb dX9_of_4 (by decide) ?_
  refine lv_bipush (v := 13) hx hb dX9_of_6 (by decide) ?_
  refine lv_iload_n hx hb dX9_of_8 rfl (lv_at hl 1 rfl) ?_
  refine lv_imul hx hb dX9_of_9 ?_
  refine lv_iadd hx hb dX9_of_10 ?_
  refine lv_iload_n hx hb dX9_of_11 rfl (lv_at hl 2 rfl) ?_
  refine lv_iadd hx hb dX9_of_12 ?_
  obtain ⟨v1, iv1, ev1, h⟩ := rd_some h
  refine kAld hx hb hKK hP 1 rfl iv1 ev1 dX9_of_13 ?_
  exact kRet hx hb hr hlk (Option.some.inj h) dX9_of_14
set_option maxHeartbeats 8000000 in
set_option maxRecDepth 100000 in
theorem qX9_isMethod (l : Launch) (D : va_G) (cI cM : ClassId) (a_z a_z_s a_z_past a_z_keeps a_z_entryKey a_z_entryDefault a_z_held a_z_values a_z_kinds a_z_news : Nat) (z_s : Nat → Int32) (z_past : Nat → Int32) (z_pasts : Int32) (z_changed : Int32) (z_entries : Int32) (z_keeps : Nat → Int32) (z_entryKey : Nat → Int32) (z_entryDefault : Nat → Int32) (z_counter : Int32) (z_held : Nat → Int32) (z_values : Nat → Int32) (z_kinds : Nat → Int32) (z_news : Nat → Int32) (x1 : Int32) (r : Int32) (h : fX9_isMethod z_s x1 = some r) : PM l yX9_isMethod wsX9_isMethod rmX9_isMethod D cI cM [.ref a_z, .int x1] (W_z cI cM a_z a_z_s a_z_past a_z_keeps a_z_entryKey a_z_entryDefault a_z_held a_z_values a_z_kinds a_z_news z_s z_past z_pasts z_changed z_entries z_keeps z_entryKey z_entryDefault z_counter z_held z_values z_kinds z_news) r := by
  refine PM.of (cc := cX9_isMethod) (maxL := 2) (ret := (some .boolean)) (by decide) rfl (Nat.le_of_ble_eq_true rfl) ?_
  intro p e s m below meth c ls hx hb hr hml hown hts hlk hP hKK hl
  have hown : s.vm.findClass RX9 = some m.cls := hown
  have hl : lv_has ls 2 [(0, .ref a_z), (1, .int x1)] := hl
  generalize hav : ([.ref a_z, .int x1] : List Value) = av at hts ⊢
  have SS : CallFix p m c cX9_isMethod 2 s av.toArray wsX9_isMethod RX9 := ⟨hx, hb, hml, hown, hts⟩
  have hinX9 : ∀ w ∈ u_ws RX9 TX9 13, w ∈ wsX9_isMethod := by decide +kernel
  have lk7 := hts (.fieldLink RX9 7 "SignatureChangerModel" "s" "[I") (List.mem_of_getElem? (i := 1) rfl)
  have cw44 : CallB rmX9_isMethod s av.toArray RX9 44 yX9_in cX9_in 3 (some .boolean) wsX9_in rmX9_in 0 0 3 ∧ (Cond.static yX9_in).before av.toArray s = true := va_cwS 3 hts gX9_isMethod_X9_in rfl rfl rfl (by decide +kernel) ⟨Nat.le_of_ble_eq_true rfl, Nat.le_of_ble_eq_true rfl⟩
  unfold fX9_isMethod at h
  refine lv_iload_n hx hb dX9_isMethod_0 rfl (lv_at hl 1 rfl) ?_
  refine lv_iconst (v := 0) hx hb dX9_isMethod_1 (by decide) ?_
  refine lv_aload_n hx hb dX9_isMethod_2 rfl (lv_at hl 0 rfl) ?_
  refine va_get (D := D) (ci := 9) (v := .ref a_z_s) (C := RX9) (T := TX9) (N := 13) hx hb hts hinX9 hown hKK.1 hP 0 rfl rfl 0 (by decide) lk7 (fun _ h9 => h9) rfl dX9_isMethod_3 ?_
  refine lv_bipush (v := 25) hx hb dX9_isMethod_6 (by decide) ?_
  obtain ⟨v1, iv1, ev1, h⟩ := rd_some h
  refine kAld hx hb hKK hP 1 rfl iv1 ev1 dX9_isMethod_8 ?_
  refine lv_iconst (v := 1) hx hb dX9_isMethod_9 (by decide) ?_
  refine lv_isub hx hb dX9_isMethod_10 ?_
  obtain ⟨v2, ev2, h⟩ := bn_some h
  refine kS (As := [.int x1, .int 0, .int (v1 - 1)]) (rest := []) SS hKK (qX9_in l D cI cM x1 0 (v1 - 1) v2 ev2) cw44 va_P_nil rfl hl.1 rfl (Nat.le_of_ble_eq_true rfl) dX9_isMethod_11 ⟨Nat.zero_le _, Nat.zero_le _⟩ ?_
  exact kRetZ hx hb hr hlk (rb_some h).2 (rb_some h).1 dX9_isMethod_14
set_option maxHeartbeats 8000000 in
set_option maxRecDepth 100000 in
theorem qX9_isNamed (l : Launch) (D : va_G) (cI cM : ClassId) (a_z a_z_s a_z_past a_z_keeps a_z_entryKey a_z_entryDefault a_z_held a_z_values a_z_kinds a_z_news : Nat) (z_s : Nat → Int32) (z_past : Nat → Int32) (z_pasts : Int32) (z_changed : Int32) (z_entries : Int32) (z_keeps : Nat → Int32) (z_entryKey : Nat → Int32) (z_entryDefault : Nat → Int32) (z_counter : Int32) (z_held : Nat → Int32) (z_values : Nat → Int32) (z_kinds : Nat → Int32) (z_news : Nat → Int32) (x1 : Int32) (x2 : Int32) (x3 : Int32) (r : Int32) (h : fX9_isNamed z_s x1 x2 x3 = some r) : PM l yX9_isNamed wsX9_isNamed rmX9_isNamed D cI cM [.ref a_z, .int x1, .int x2, .int x3] (W_z cI cM a_z a_z_s a_z_past a_z_keeps a_z_entryKey a_z_entryDefault a_z_held a_z_values a_z_kinds a_z_news z_s z_past z_pasts z_changed z_entries z_keeps z_entryKey z_entryDefault z_counter z_held z_values z_kinds z_news) r := by
  refine PM.of (cc := cX9_isNamed) (maxL := 4) (ret := (some .boolean)) (by decide) rfl (Nat.le_of_ble_eq_true rfl) ?_
  intro p e s m below meth c ls hx hb hr hml hown hts hlk hP hKK hl
  have hown : s.vm.findClass RX9 = some m.cls := hown
  have hl : lv_has ls 4 [(0, .ref a_z), (1, .int x1), (2, .int x2), (3, .int x3)] := hl
  generalize hav : ([.ref a_z, .int x1, .int x2, .int x3] : List Value) = av at hts ⊢
  have SS : CallFix p m c cX9_isNamed 4 s av.toArray wsX9_isNamed RX9 := ⟨hx, hb, hml, hown, hts⟩
  have cw63 : CallW rmX9_isNamed s av.toArray RX9 RX9 63 yX9_of cX9_of 3 (some .int) wsX9_of rmX9_of 0 0 2 := cwV 2 hts gX9_isNamed_X9_of rfl rfl rfl (by decide +kernel) ⟨Nat.le_of_ble_eq_true rfl, Nat.le_of_ble_eq_true rfl⟩
  unfold fX9_isNamed at h
  refine lv_aload_n hx hb dX9_isNamed_0 rfl (lv_at hl 0 rfl) ?_
  refine lv_iload_n hx hb dX9_isNamed_1 rfl (lv_at hl 1 rfl) ?_
  refine lv_iconst (v := 1) hx hb dX9_isNamed_2 (by decide) ?_
  obtain ⟨v1, ev1, h⟩ := bn_some h
  have hs2 : va_P D vwCl (W_z cI cM a_z a_z_s a_z_past a_z_keeps a_z_entryKey a_z_entryDefault a_z_held a_z_values a_z_kinds a_z_news z_s z_past z_pasts z_changed z_entries z_keeps z_entryKey z_entryDefault z_counter z_held z_values z_kinds z_news) _ := hP.sub (ws' := W_z cI cM a_z a_z_s a_z_past a_z_keeps a_z_entryKey a_z_entryDefault a_z_held a_z_values a_z_kinds a_z_news z_s z_past z_pasts z_changed z_entries z_keeps z_entryKey z_entryDefault z_counter z_held z_values z_kinds z_news) [0, 1, 2, 3, 4, 5, 6, 7, 8, 9] rfl
  refine kV (As := [.int x1, .int 1]) (rest := []) SS hKK (qX9_of l D cI cM a_z a_z_s a_z_past a_z_keeps a_z_entryKey a_z_entryDefault a_z_held a_z_values a_z_kinds a_z_news z_s z_past z_pasts z_changed z_entries z_keeps z_entryKey z_entryDefault z_counter z_held z_values z_kinds z_news x1 1 v1 ev1) cw63 hs2 0 9 rfl rfl rfl hl.1 rfl (Nat.le_of_ble_eq_true rfl) dX9_isNamed_3 ⟨Nat.zero_le _, Nat.zero_le _⟩ ?_
  refine lv_iload_n hx hb dX9_isNamed_6 rfl (lv_at hl 2 rfl) ?_
  refine lv_icmp_ne (tgt := 24) hx hb dX9_isNamed_7 (by decide) (fun c3 => ?_) (fun c3 => ?_)
  · have h := ifn h c3
    refine lv_iconst (v := 0) hx hb dX9_isNamed_24 (by decide) ?_
    exact kRetZ hx hb hr hlk rfl (Option.some.inj h) dX9_isNamed_25
  · have h := ifp h c3
    refine lv_aload_n hx hb dX9_isNamed_10 rfl (lv_at hl 0 rfl) ?_
    refine lv_iload_n hx hb dX9_isNamed_11 rfl (lv_at hl 1 rfl) ?_
    refine lv_iconst (v := 2) hx hb dX9_isNamed_12 (by decide) ?_
    obtain ⟨v4, ev4, h⟩ := bn_some h
    refine kV (As := [.int x1, .int 2]) (rest := []) SS hKK (qX9_of l D cI cM a_z a_z_s a_z_past a_z_keeps a_z_entryKey a_z_entryDefault a_z_held a_z_values a_z_kinds a_z_news z_s z_past z_pasts z_changed z_entries z_keeps z_entryKey z_entryDefault z_counter z_held z_values z_kinds z_news x1 2 v4 ev4) cw63 hs2 0 9 rfl rfl rfl hl.1 rfl (Nat.le_of_ble_eq_true rfl) dX9_isNamed_13 ⟨Nat.zero_le _, Nat.zero_le _⟩ ?_
    refine lv_iload_n hx hb dX9_isNamed_16 rfl (lv_at hl 3 rfl) ?_
    refine lv_icmp_ne (tgt := 24) hx hb dX9_isNamed_17 (by decide) (fun c5 => ?_) (fun c5 => ?_)
    · have h := ifn h c5
      refine lv_iconst (v := 0) hx hb dX9_isNamed_24 (by decide) ?_
      exact kRetZ hx hb hr hlk rfl (Option.some.inj h) dX9_isNamed_25
    · have h := ifp h c5
      refine lv_iconst (v := 1) hx hb dX9_isNamed_20 (by decide) ?_
      refine lv_goto (tgt := 25) hx hb dX9_isNamed_21 (by decide) ?_
      exact kRetZ hx hb hr hlk rfl (Option.some.inj h) dX9_isNamed_25
set_option maxHeartbeats 8000000 in
set_option maxRecDepth 100000 in
theorem qX9_areAlikeNamed (l : Launch) (D : va_G) (cI cM : ClassId) (a_z a_z_s a_z_past a_z_keeps a_z_entryKey a_z_entryDefault a_z_held a_z_values a_z_kinds a_z_news : Nat) (z_s : Nat → Int32) (z_past : Nat → Int32) (z_pasts : Int32) (z_changed : Int32) (z_entries : Int32) (z_keeps : Nat → Int32) (z_entryKey : Nat → Int32) (z_entryDefault : Nat → Int32) (z_counter : Int32) (z_held : Nat → Int32) (z_values : Nat → Int32) (z_kinds : Nat → Int32) (z_news : Nat → Int32) (x1 : Int32) (x2 : Int32) (r : Int32) (h : fX9_areAlikeNamed z_s x1 x2 = some r) : PM l yX9_areAlikeNamed wsX9_areAlikeNamed rmX9_areAlikeNamed D cI cM [.ref a_z, .int x1, .int x2] (W_z cI cM a_z a_z_s a_z_past a_z_keeps a_z_entryKey a_z_entryDefault a_z_held a_z_values a_z_kinds a_z_news z_s z_past z_pasts z_changed z_entries z_keeps z_entryKey z_entryDefault z_counter z_held z_values z_kinds z_news) r := by
  refine PM.of (cc := cX9_areAlikeNamed) (maxL := 3) (ret := (some .boolean)) (by decide) rfl (Nat.le_of_ble_eq_true rfl) ?_
  intro p e s m below meth c ls hx hb hr hml hown hts hlk hP hKK hl
  have hown : s.vm.findClass RX9 = some m.cls := hown
  have hl : lv_has ls 3 [(0, .ref a_z), (1, .int x1), (2, .int x2)] := hl
  generalize hav : ([.ref a_z, .int x1, .int x2] : List Value) = av at hts ⊢
  have SS : CallFix p m c cX9_areAlikeNamed 3 s av.toArray wsX9_areAlikeNamed RX9 := ⟨hx, hb, hml, hown, hts⟩
  have cw63 : CallW rmX9_areAlikeNamed s av.toArray RX9 RX9 63 yX9_of cX9_of 3 (some .int) wsX9_of rmX9_of 0 0 2 := cwV 2 hts gX9_areAlikeNamed_X9_of rfl rfl rfl (by decide +kernel) ⟨Nat.le_of_ble_eq_true rfl, Nat.le_of_ble_eq_true rfl⟩
  have cw67 : CallW rmX9_areAlikeNamed s av.toArray RX9 RX9 67 yX9_isNamed cX9_isNamed 4 (some .boolean) wsX9_isNamed rmX9_isNamed 0 0 3 := cwV 3 hts gX9_areAlikeNamed_X9_isNamed rfl rfl rfl (by decide +kernel) ⟨Nat.le_of_ble_eq_true rfl, Nat.le_of_ble_eq_true rfl⟩
  unfold fX9_areAlikeNamed at h
  refine lv_aload_n hx hb dX9_areAlikeNamed_0 rfl (lv_at hl 0 rfl) ?_
  refine lv_iload_n hx hb dX9_areAlikeNamed_1 rfl (lv_at hl 1 rfl) ?_
  refine lv_aload_n hx hb dX9_areAlikeNamed_2 rfl (lv_at hl 0 rfl) ?_
  refine lv_iload_n hx hb dX9_areAlikeNamed_3 rfl (lv_at hl 2 rfl) ?_
  refine lv_iconst (v := 1) hx hb dX9_areAlikeNamed_4 (by decide) ?_
  obtain ⟨v1, ev1, h⟩ := bn_some h
  have hs2 : va_P D vwCl (W_z cI cM a_z a_z_s a_z_past a_z_keeps a_z_entryKey a_z_entryDefault a_z_held a_z_values a_z_kinds a_z_news z_s z_past z_pasts z_changed z_entries z_keeps z_entryKey z_entryDefault z_counter z_held z_values z_kinds z_news) _ := hP.sub (ws' := W_z cI cM a_z a_z_s a_z_past a_z_keeps a_z_entryKey a_z_entryDefault a_z_held a_z_values a_z_kinds a_z_news z_s z_past z_pasts z_changed z_entries z_keeps z_entryKey z_entryDefault z_counter z_held z_values z_kinds z_news) [0, 1, 2, 3, 4, 5, 6, 7, 8, 9] rfl
  refine kV (As := [.int x2, .int 1]) (rest := [.int x1, .ref a_z]) SS hKK (qX9_of l D cI cM a_z a_z_s a_z_past a_z_keeps a_z_entryKey a_z_entryDefault a_z_held a_z_values a_z_kinds a_z_news z_s z_past z_pasts z_changed z_entries z_keeps z_entryKey z_entryDefault z_counter z_held z_values z_kinds z_news x2 1 v1 ev1) cw63 hs2 0 9 rfl rfl rfl hl.1 rfl (Nat.le_of_ble_eq_true rfl) dX9_areAlikeNamed_5 ⟨Nat.zero_le _, Nat.zero_le _⟩ ?_
  refine lv_aload_n hx hb dX9_areAlikeNamed_8 rfl (lv_at hl 0 rfl) ?_
  refine lv_iload_n hx hb dX9_areAlikeNamed_9 rfl (lv_at hl 2 rfl) ?_
  refine lv_iconst (v := 2) hx hb dX9_areAlikeNamed_10 (by decide) ?_
  obtain ⟨v3, ev3, h⟩ := bn_some h
  refine kV (As := [.int x2, .int 2]) (rest := [.int v1, .int x1, .ref a_z]) SS hKK (qX9_of l D cI cM a_z a_z_s a_z_past a_z_keeps a_z_entryKey a_z_entryDefault a_z_held a_z_values a_z_kinds a_z_news z_s z_past z_pasts z_changed z_entries z_keeps z_entryKey z_entryDefault z_counter z_held z_values z_kinds z_news x2 2 v3 ev3) cw63 hs2 0 9 rfl rfl rfl hl.1 rfl (Nat.le_of_ble_eq_true rfl) dX9_areAlikeNamed_11 ⟨Nat.zero_le _, Nat.zero_le _⟩ ?_
  obtain ⟨v4, ev4, h⟩ := bn_some h
  refine kV (As := [.int x1, .int v1, .int v3]) (rest := []) SS hKK (qX9_isNamed l D cI cM a_z a_z_s a_z_past a_z_keeps a_z_entryKey a_z_entryDefault a_z_held a_z_values a_z_kinds a_z_news z_s z_past z_pasts z_changed z_entries z_keeps z_entryKey z_entryDefault z_counter z_held z_values z_kinds z_news x1 v1 v3 v4 ev4) cw67 hs2 0 9 rfl rfl rfl hl.1 rfl (Nat.le_of_ble_eq_true rfl) dX9_areAlikeNamed_14 ⟨Nat.zero_le _, Nat.zero_le _⟩ ?_
  exact kRetZ hx hb hr hlk (rb_some h).2 (rb_some h).1 dX9_areAlikeNamed_17
set_option maxHeartbeats 8000000 in
set_option maxRecDepth 100000 in
theorem qX9_haveSameList (l : Launch) (D : va_G) (cI cM : ClassId) (a_z a_z_s a_z_past a_z_keeps a_z_entryKey a_z_entryDefault a_z_held a_z_values a_z_kinds a_z_news : Nat) (z_s : Nat → Int32) (z_past : Nat → Int32) (z_pasts : Int32) (z_changed : Int32) (z_entries : Int32) (z_keeps : Nat → Int32) (z_entryKey : Nat → Int32) (z_entryDefault : Nat → Int32) (z_counter : Int32) (z_held : Nat → Int32) (z_values : Nat → Int32) (z_kinds : Nat → Int32) (z_news : Nat → Int32) (x1 : Int32) (x2 : Int32) (r : Int32) (h : fX9_haveSameList z_s x1 x2 = some r) : PM l yX9_haveSameList wsX9_haveSameList rmX9_haveSameList D cI cM [.ref a_z, .int x1, .int x2] (W_z cI cM a_z a_z_s a_z_past a_z_keeps a_z_entryKey a_z_entryDefault a_z_held a_z_values a_z_kinds a_z_news z_s z_past z_pasts z_changed z_entries z_keeps z_entryKey z_entryDefault z_counter z_held z_values z_kinds z_news) r := by
  refine PM.of (cc := cX9_haveSameList) (maxL := 5) (ret := (some .boolean)) (by decide) rfl (Nat.le_of_ble_eq_true rfl) ?_
  intro p e s m below meth c ls hx hb hr hml hown hts hlk hP hKK hl
  have hown : s.vm.findClass RX9 = some m.cls := hown
  have hl : lv_has ls 5 [(0, .ref a_z), (1, .int x1), (2, .int x2)] := hl
  generalize hav : ([.ref a_z, .int x1, .int x2] : List Value) = av at hts ⊢
  have SS : CallFix p m c cX9_haveSameList 5 s av.toArray wsX9_haveSameList RX9 := ⟨hx, hb, hml, hown, hts⟩
  have cw63 : CallW rmX9_haveSameList s av.toArray RX9 RX9 63 yX9_of cX9_of 3 (some .int) wsX9_of rmX9_of 0 0 2 := cwV 2 hts gX9_haveSameList_X9_of rfl rfl rfl (by decide +kernel) ⟨Nat.le_of_ble_eq_true rfl, Nat.le_of_ble_eq_true rfl⟩
  have F94 : ∀ (k24 : Int32 → Int32 → Int32 → Int32 → Option (Int32)) (hk24 : ∀ (u1 : Int32) (u2 : Int32) (u3 : Int32) (u4 : Int32), k24 u1 u2 u3 u4 = some r → ∀ ls : Array Slot, lv_has ls 5 [(0, .ref a_z), (1, .int u1), (2, .int u2), (3, .int u3), (4, .int u4)] → WP p l e rmX9_haveSameList s m av below meth c r 24 ls []), ∀ (y1 : Int32) (y2 : Int32) (y4 : Int32) (s0 : Int32), jX9_haveSameList_94 z_s k24 y1 y2 y4 s0 = some r → ∀ ls : Array Slot, lv_has ls 5 [(0, .ref a_z), (1, .int y1), (2, .int y2), (4, .int y4)] → WP p l e rmX9_haveSameList s m av below meth c r 94 ls [.int s0] := by
    intro k24 hk24
    intro y1 y2 y4 s0 h ls hl
    unfold jX9_haveSameList_94 at h
    refine lv_istore_n (lv' := [(3, .int s0), (0, .ref a_z), (1, .int y1), (2, .int y2), (4, .int y4)]) hx hb dX9_haveSameList_94 rfl hl (by decide) rfl (fun ls hl => ?_)
    refine lv_iinc (v := y4 + 1) (lv' := [(4, .int (y4 + 1)), (3, .int s0), (0, .ref a_z), (1, .int y1), (2, .int y2)]) hx hb dX9_haveSameList_95 hl (k := 4) rfl rfl (by decide) rfl (fun ls hl => ?_)
    refine lv_goto (tgt := 24) hx hb dX9_haveSameList_98 (by decide) ?_
    exact hk24 y1 y2 s0 (y4 + 1) h ls (lv_sub (l' := [(0, .ref a_z), (1, .int y1), (2, .int y2), (3, .int s0), (4, .int (y4 + 1))]) hl [2, 3, 4, 1, 0] rfl)
  have F89 : ∀ (k24 : Int32 → Int32 → Int32 → Int32 → Option (Int32)) (hk24 : ∀ (u1 : Int32) (u2 : Int32) (u3 : Int32) (u4 : Int32), k24 u1 u2 u3 u4 = some r → ∀ ls : Array Slot, lv_has ls 5 [(0, .ref a_z), (1, .int u1), (2, .int u2), (3, .int u3), (4, .int u4)] → WP p l e rmX9_haveSameList s m av below meth c r 24 ls []), ∀ (y1 : Int32) (y2 : Int32) (y4 : Int32), jX9_haveSameList_89 z_s k24 y1 y2 y4 = some r → ∀ ls : Array Slot, lv_has ls 5 [(0, .ref a_z), (1, .int y1), (2, .int y2), (4, .int y4)] → WP p l e rmX9_haveSameList s m av below meth c r 89 ls [] := by
    intro k24 hk24
    intro y1 y2 y4 h ls hl
    unfold jX9_haveSameList_89 at h
    refine lv_iconst (v := 1) hx hb dX9_haveSameList_89 (by decide) ?_
    refine lv_goto (tgt := 94) hx hb dX9_haveSameList_90 (by decide) ?_
    exact F94 k24 hk24 y1 y2 y4 1 h ls (lv_sub (l' := [(0, .ref a_z), (1, .int y1), (2, .int y2), (4, .int y4)]) hl [0, 1, 2, 3] rfl)
  have F93 : ∀ (k24 : Int32 → Int32 → Int32 → Int32 → Option (Int32)) (hk24 : ∀ (u1 : Int32) (u2 : Int32) (u3 : Int32) (u4 : Int32), k24 u1 u2 u3 u4 = some r → ∀ ls : Array Slot, lv_has ls 5 [(0, .ref a_z), (1, .int u1), (2, .int u2), (3, .int u3), (4, .int u4)] → WP p l e rmX9_haveSameList s m av below meth c r 24 ls []), ∀ (y1 : Int32) (y2 : Int32) (y4 : Int32), jX9_haveSameList_93 z_s k24 y1 y2 y4 = some r → ∀ ls : Array Slot, lv_has ls 5 [(0, .ref a_z), (1, .int y1), (2, .int y2), (4, .int y4)] → WP p l e rmX9_haveSameList s m av below meth c r 93 ls [] := by
    intro k24 hk24
    intro y1 y2 y4 h ls hl
    unfold jX9_haveSameList_93 at h
    refine lv_iconst (v := 0) hx hb dX9_haveSameList_93 (by decide) ?_
    exact F94 k24 hk24 y1 y2 y4 0 h ls (lv_sub (l' := [(0, .ref a_z), (1, .int y1), (2, .int y2), (4, .int y4)]) hl [0, 1, 2, 3] rfl)
  have F24 : ∀ (n : Nat) (y1 : Int32) (y2 : Int32) (y3 : Int32) (y4 : Int32), lX9_haveSameList_24 z_s n y1 y2 y3 y4 = some r → ∀ ls : Array Slot, lv_has ls 5 [(0, .ref a_z), (1, .int y1), (2, .int y2), (3, .int y3), (4, .int y4)] → WP p l e rmX9_haveSameList s m av below meth c r 24 ls [] := by
    intro n
    induction n with
    | zero => intro y1 y2 y3 y4 h; exact no_some h
    | succ n ih =>
      intro y1 y2 y3 y4 h ls hl
      rw [lX9_haveSameList_24_s] at h
      refine lv_iload hx hb dX9_haveSameList_24 (lv_at hl 4 rfl) ?_
      refine lv_iconst (v := 5) hx hb dX9_haveSameList_26 (by decide) ?_
      refine lv_icmp_ge (tgt := 101) hx hb dX9_haveSameList_27 (by decide) (fun c1 => ?_) (fun c1 => ?_)
      · have h := ifp h c1
        refine lv_iload_n hx hb dX9_haveSameList_101 rfl (lv_at hl 3 rfl) ?_
        exact kRetZ hx hb hr hlk (rb_some h).2 (rb_some h).1 dX9_haveSameList_102
      · have h := ifn h c1
        refine lv_iload_n hx hb dX9_haveSameList_30 rfl (lv_at hl 3 rfl) ?_
        refine lv_if_eq (tgt := 101) hx hb dX9_haveSameList_31 (by decide) (fun c2 => ?_) (fun c2 => ?_)
        · have h := ifp h c2
          refine lv_iload_n hx hb dX9_haveSameList_101 rfl (lv_at hl 3 rfl) ?_
          exact kRetZ hx hb hr hlk (rb_some h).2 (rb_some h).1 dX9_haveSameList_102
        · have h := ifn h c2
          refine lv_iload hx hb dX9_haveSameList_34 (lv_at hl 4 rfl) ?_
          refine lv_aload_n hx hb dX9_haveSameList_36 rfl (lv_at hl 0 rfl) ?_
          refine lv_iload_n hx hb dX9_haveSameList_37 rfl (lv_at hl 1 rfl) ?_
          refine lv_iconst (v := 2) hx hb dX9_haveSameList_38 (by decide) ?_
          obtain ⟨v3, ev3, h⟩ := bn_some h
          have hs4 : va_P D vwCl (W_z cI cM a_z a_z_s a_z_past a_z_keeps a_z_entryKey a_z_entryDefault a_z_held a_z_values a_z_kinds a_z_news z_s z_past z_pasts z_changed z_entries z_keeps z_entryKey z_entryDefault z_counter z_held z_values z_kinds z_news) _ := hP.sub (ws' := W_z cI cM a_z a_z_s a_z_past a_z_keeps a_z_entryKey a_z_entryDefault a_z_held a_z_values a_z_kinds a_z_news z_s z_past z_pasts z_changed z_entries z_keeps z_entryKey z_entryDefault z_counter z_held z_values z_kinds z_news) [0, 1, 2, 3, 4, 5, 6, 7, 8, 9] rfl
          refine kV (As := [.int y1, .int 2]) (rest := [.int y4]) SS hKK (qX9_of l D cI cM a_z a_z_s a_z_past a_z_keeps a_z_entryKey a_z_entryDefault a_z_held a_z_values a_z_kinds a_z_news z_s z_past z_pasts z_changed z_entries z_keeps z_entryKey z_entryDefault z_counter z_held z_values z_kinds z_news y1 2 v3 ev3) cw63 hs4 0 9 rfl rfl rfl hl.1 rfl (Nat.le_of_ble_eq_true rfl) dX9_haveSameList_39 ⟨Nat.zero_le _, Nat.zero_le _⟩ ?_
          refine lv_icmp_ge (tgt := 89) hx hb dX9_haveSameList_42 (by decide) (fun c5 => ?_) (fun c5 => ?_)
          · have h := ifp h c5
            exact F89 (fun u1 u2 u3 u4 => lX9_haveSameList_24 z_s n u1 u2 u3 u4) (fun u1 u2 u3 u4 h ls hl => ih u1 u2 u3 u4 h ls hl) y1 y2 y4 h ls (lv_sub (l' := [(0, .ref a_z), (1, .int y1), (2, .int y2), (4, .int y4)]) hl [0, 1, 2, 4] rfl)
          · have h := ifn h c5
            refine lv_aload_n hx hb dX9_haveSameList_45 rfl (lv_at hl 0 rfl) ?_
            refine lv_iload_n hx hb dX9_haveSameList_46 rfl (lv_at hl 1 rfl) ?_
            refine lv_iconst (v := 3) hx hb dX9_haveSameList_47 (by decide) ?_
            refine lv_iload hx hb dX9_haveSameList_48 (lv_at hl 4 rfl) ?_
            refine lv_iadd hx hb dX9_haveSameList_50 ?_
            obtain ⟨v6, ev6, h⟩ := bn_some h
            refine kV (As := [.int y1, .int (3 + y4)]) (rest := []) SS hKK (qX9_of l D cI cM a_z a_z_s a_z_past a_z_keeps a_z_entryKey a_z_entryDefault a_z_held a_z_values a_z_kinds a_z_news z_s z_past z_pasts z_changed z_entries z_keeps z_entryKey z_entryDefault z_counter z_held z_values z_kinds z_news y1 (3 + y4) v6 ev6) cw63 hs4 0 9 rfl rfl rfl hl.1 rfl (Nat.le_of_ble_eq_true rfl) dX9_haveSameList_51 ⟨Nat.zero_le _, Nat.zero_le _⟩ ?_
            refine lv_aload_n hx hb dX9_haveSameList_54 rfl (lv_at hl 0 rfl) ?_
            refine lv_iload_n hx hb dX9_haveSameList_55 rfl (lv_at hl 2 rfl) ?_
            refine lv_iconst (v := 3) hx hb dX9_haveSameList_56 (by decide) ?_
            refine lv_iload hx hb dX9_haveSameList_57 (lv_at hl 4 rfl) ?_
            refine lv_iadd hx hb dX9_haveSameList_59 ?_
            obtain ⟨v7, ev7, h⟩ := bn_some h
            refine kV (As := [.int y2, .int (3 + y4)]) (rest := [.int v6]) SS hKK (qX9_of l D cI cM a_z a_z_s a_z_past a_z_keeps a_z_entryKey a_z_entryDefault a_z_held a_z_values a_z_kinds a_z_news z_s z_past z_pasts z_changed z_entries z_keeps z_entryKey z_entryDefault z_counter z_held z_values z_kinds z_news y2 (3 + y4) v7 ev7) cw63 hs4 0 9 rfl rfl rfl hl.1 rfl (Nat.le_of_ble_eq_true rfl) dX9_haveSameList_60 ⟨Nat.zero_le _, Nat.zero_le _⟩ ?_
            refine lv_icmp_ne (tgt := 93) hx hb dX9_haveSameList_63 (by decide) (fun c8 => ?_) (fun c8 => ?_)
            · have h := ifn h c8
              exact F93 (fun u1 u2 u3 u4 => lX9_haveSameList_24 z_s n u1 u2 u3 u4) (fun u1 u2 u3 u4 h ls hl => ih u1 u2 u3 u4 h ls hl) y1 y2 y4 h ls (lv_sub (l' := [(0, .ref a_z), (1, .int y1), (2, .int y2), (4, .int y4)]) hl [0, 1, 2, 4] rfl)
            · have h := ifp h c8
              refine lv_aload_n hx hb dX9_haveSameList_66 rfl (lv_at hl 0 rfl) ?_
              refine lv_iload_n hx hb dX9_haveSameList_67 rfl (lv_at hl 1 rfl) ?_
              refine lv_bipush (v := 8) hx hb dX9_haveSameList_68 (by decide) ?_
              refine lv_iload hx hb dX9_haveSameList_70 (lv_at hl 4 rfl) ?_
              refine lv_iadd hx hb dX9_haveSameList_72 ?_
              obtain ⟨v9, ev9, h⟩ := bn_some h
              refine kV (As := [.int y1, .int (8 + y4)]) (rest := []) SS hKK (qX9_of l D cI cM a_z a_z_s a_z_past a_z_keeps a_z_entryKey a_z_entryDefault a_z_held a_z_values a_z_kinds a_z_news z_s z_past z_pasts z_changed z_entries z_keeps z_entryKey z_entryDefault z_counter z_held z_values z_kinds z_news y1 (8 + y4) v9 ev9) cw63 hs4 0 9 rfl rfl rfl hl.1 rfl (Nat.le_of_ble_eq_true rfl) dX9_haveSameList_73 ⟨Nat.zero_le _, Nat.zero_le _⟩ ?_
              refine lv_aload_n hx hb dX9_haveSameList_76 rfl (lv_at hl 0 rfl) ?_
              refine lv_iload_n hx hb dX9_haveSameList_77 rfl (lv_at hl 2 rfl) ?_
              refine lv_bipush (v := 8) hx hb dX9_haveSameList_78 (by decide) ?_
              refine lv_iload hx hb dX9_haveSameList_80 (lv_at hl 4 rfl) ?_
              refine lv_iadd hx hb dX9_haveSameList_82 ?_
              obtain ⟨v10, ev10, h⟩ := bn_some h
              refine kV (As := [.int y2, .int (8 + y4)]) (rest := [.int v9]) SS hKK (qX9_of l D cI cM a_z a_z_s a_z_past a_z_keeps a_z_entryKey a_z_entryDefault a_z_held a_z_values a_z_kinds a_z_news z_s z_past z_pasts z_changed z_entries z_keeps z_entryKey z_entryDefault z_counter z_held z_values z_kinds z_news y2 (8 + y4) v10 ev10) cw63 hs4 0 9 rfl rfl rfl hl.1 rfl (Nat.le_of_ble_eq_true rfl) dX9_haveSameList_83 ⟨Nat.zero_le _, Nat.zero_le _⟩ ?_
              refine lv_icmp_ne (tgt := 93) hx hb dX9_haveSameList_86 (by decide) (fun c11 => ?_) (fun c11 => ?_)
              · have h := ifn h c11
                exact F93 (fun u1 u2 u3 u4 => lX9_haveSameList_24 z_s n u1 u2 u3 u4) (fun u1 u2 u3 u4 h ls hl => ih u1 u2 u3 u4 h ls hl) y1 y2 y4 h ls (lv_sub (l' := [(0, .ref a_z), (1, .int y1), (2, .int y2), (4, .int y4)]) hl [0, 1, 2, 4] rfl)
              · have h := ifp h c11
                exact F89 (fun u1 u2 u3 u4 => lX9_haveSameList_24 z_s n u1 u2 u3 u4) (fun u1 u2 u3 u4 h ls hl => ih u1 u2 u3 u4 h ls hl) y1 y2 y4 h ls (lv_sub (l' := [(0, .ref a_z), (1, .int y1), (2, .int y2), (4, .int y4)]) hl [0, 1, 2, 4] rfl)
  have F20 : ∀ (y1 : Int32) (y2 : Int32) (s0 : Int32), jX9_haveSameList_20 z_s y1 y2 s0 = some r → ∀ ls : Array Slot, lv_has ls 5 [(0, .ref a_z), (1, .int y1), (2, .int y2)] → WP p l e rmX9_haveSameList s m av below meth c r 20 ls [.int s0] := by
    intro y1 y2 s0 h ls hl
    unfold jX9_haveSameList_20 at h
    refine lv_istore_n (lv' := [(3, .int s0), (0, .ref a_z), (1, .int y1), (2, .int y2)]) hx hb dX9_haveSameList_20 rfl hl (by decide) rfl (fun ls hl => ?_)
    refine lv_iconst (v := 0) hx hb dX9_haveSameList_21 (by decide) ?_
    refine lv_istore (lv' := [(4, .int 0), (3, .int s0), (0, .ref a_z), (1, .int y1), (2, .int y2)]) hx hb dX9_haveSameList_22 hl (by decide) rfl (fun ls hl => ?_)
    exact F24 5000 y1 y2 s0 0 h ls (lv_sub (l' := [(0, .ref a_z), (1, .int y1), (2, .int y2), (3, .int s0), (4, .int 0)]) hl [2, 3, 4, 1, 0] rfl)
  unfold fX9_haveSameList at h
  refine lv_aload_n hx hb dX9_haveSameList_0 rfl (lv_at hl 0 rfl) ?_
  refine lv_iload_n hx hb dX9_haveSameList_1 rfl (lv_at hl 1 rfl) ?_
  refine lv_iconst (v := 2) hx hb dX9_haveSameList_2 (by decide) ?_
  obtain ⟨v1, ev1, h⟩ := bn_some h
  have hs2 : va_P D vwCl (W_z cI cM a_z a_z_s a_z_past a_z_keeps a_z_entryKey a_z_entryDefault a_z_held a_z_values a_z_kinds a_z_news z_s z_past z_pasts z_changed z_entries z_keeps z_entryKey z_entryDefault z_counter z_held z_values z_kinds z_news) _ := hP.sub (ws' := W_z cI cM a_z a_z_s a_z_past a_z_keeps a_z_entryKey a_z_entryDefault a_z_held a_z_values a_z_kinds a_z_news z_s z_past z_pasts z_changed z_entries z_keeps z_entryKey z_entryDefault z_counter z_held z_values z_kinds z_news) [0, 1, 2, 3, 4, 5, 6, 7, 8, 9] rfl
  refine kV (As := [.int x1, .int 2]) (rest := []) SS hKK (qX9_of l D cI cM a_z a_z_s a_z_past a_z_keeps a_z_entryKey a_z_entryDefault a_z_held a_z_values a_z_kinds a_z_news z_s z_past z_pasts z_changed z_entries z_keeps z_entryKey z_entryDefault z_counter z_held z_values z_kinds z_news x1 2 v1 ev1) cw63 hs2 0 9 rfl rfl rfl hl.1 rfl (Nat.le_of_ble_eq_true rfl) dX9_haveSameList_3 ⟨Nat.zero_le _, Nat.zero_le _⟩ ?_
  refine lv_aload_n hx hb dX9_haveSameList_6 rfl (lv_at hl 0 rfl) ?_
  refine lv_iload_n hx hb dX9_haveSameList_7 rfl (lv_at hl 2 rfl) ?_
  refine lv_iconst (v := 2) hx hb dX9_haveSameList_8 (by decide) ?_
  obtain ⟨v3, ev3, h⟩ := bn_some h
  refine kV (As := [.int x2, .int 2]) (rest := [.int v1]) SS hKK (qX9_of l D cI cM a_z a_z_s a_z_past a_z_keeps a_z_entryKey a_z_entryDefault a_z_held a_z_values a_z_kinds a_z_news z_s z_past z_pasts z_changed z_entries z_keeps z_entryKey z_entryDefault z_counter z_held z_values z_kinds z_news x2 2 v3 ev3) cw63 hs2 0 9 rfl rfl rfl hl.1 rfl (Nat.le_of_ble_eq_true rfl) dX9_haveSameList_9 ⟨Nat.zero_le _, Nat.zero_le _⟩ ?_
  refine lv_icmp_ne (tgt := 19) hx hb dX9_haveSameList_12 (by decide) (fun c4 => ?_) (fun c4 => ?_)
  · have h := ifn h c4
    refine lv_iconst (v := 0) hx hb dX9_haveSameList_19 (by decide) ?_
    exact F20 x1 x2 0 h ls (lv_sub (l' := [(0, .ref a_z), (1, .int x1), (2, .int x2)]) hl [0, 1, 2] rfl)
  · have h := ifp h c4
    refine lv_iconst (v := 1) hx hb dX9_haveSameList_15 (by decide) ?_
    refine lv_goto (tgt := 20) hx hb dX9_haveSameList_16 (by decide) ?_
    exact F20 x1 x2 1 h ls (lv_sub (l' := [(0, .ref a_z), (1, .int x1), (2, .int x2)]) hl [0, 1, 2] rfl)
