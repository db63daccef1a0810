/-! generated: X4.look X4.ofKind X8.conflict X4.staysEarlier X4.keepsOrder J6.bitCount_0f7a4 X4.choose X5.exists X5.withSignature X5.smallest X5.declaredBy X5.typesOf X5.sameParameters X5.agree X5.disagreeWithin X5.putParameter X5.add X5.replaceParameters X7.connectedWith X6.familyOf X6.targetFor X6.classMethod X7.inherits X6.hasSubtypeIn X6.interfaceMethod -/
set_option maxHeartbeats 8000000 in
set_option maxRecDepth 100000 in
theorem qX4_look (l : Launch) (D : va_G) (cI cM : ClassId) (a_g a_g_kinds a_g_positions a_k a_k_staticType a_k_dynamicType a_k_target a_k_argumentCounts a_k_temporaryCounts a_k_keys a_k_kinds a_k_values a_k_temporaryKinds a_k_newKinds a_k_newValues a_d a_d_sources a_d_keys a_d_defaults : Nat) (g_count : Int32) (g_kept : Int32) (g_kinds : Nat → Int32) (g_positions : Nat → Int32) (k_count : Int32) (k_frozenSet : Int32) (k_staticType : Nat → Int32) (k_dynamicType : Nat → Int32) (k_target : Nat → Int32) (k_argumentCounts : Nat → Int32) (k_temporaryCounts : Nat → Int32) (k_keys : Nat → Int32) (k_kinds : Nat → Int32) (k_values : Nat → Int32) (k_temporaryKinds : Nat → Int32) (k_newKinds : Nat → Int32) (k_newValues : Nat → Int32) (d_open : Int32) (d_method : Int32) (d_family : Int32) (d_oldCount : Int32) (d_keptSet : Int32) (d_count : Int32) (d_sources : Nat → Int32) (d_keys : Nat → Int32) (d_defaults : Nat → Int32) (d_usedKeys : Int32) (x2 : Int32) (r_g_count : Int32) (r_g_kept : Int32) (r_g_kinds : Nat → Int32) (r_g_positions : Nat → Int32) (h : fX4_look g_count g_kept g_kinds g_positions k_argumentCounts k_kinds d_keptSet d_count d_sources x2 = some (r_g_count, r_g_kept, r_g_kinds, r_g_positions)) : IM l yX4_look wsX4_look rmX4_look D cI cM [.ref a_g, .ref a_k, .int x2, .ref a_d] (W_g_k_d cI cM a_g a_g_kinds a_g_positions a_k a_k_staticType a_k_dynamicType a_k_target a_k_argumentCounts a_k_temporaryCounts a_k_keys a_k_kinds a_k_values a_k_temporaryKinds a_k_newKinds a_k_newValues a_d a_d_sources a_d_keys a_d_defaults g_count g_kept g_kinds g_positions k_count k_frozenSet k_staticType k_dynamicType k_target k_argumentCounts k_temporaryCounts k_keys k_kinds k_values k_temporaryKinds k_newKinds k_newValues d_open d_method d_family d_oldCount d_keptSet d_count d_sources d_keys d_defaults d_usedKeys) (W_g_k_d cI cM a_g a_g_kinds a_g_positions a_k a_k_staticType a_k_dynamicType a_k_target a_k_argumentCounts a_k_temporaryCounts a_k_keys a_k_kinds a_k_values a_k_temporaryKinds a_k_newKinds a_k_newValues a_d a_d_sources a_d_keys a_d_defaults r_g_count r_g_kept r_g_kinds r_g_positions k_count k_frozenSet k_staticType k_dynamicType k_target k_argumentCounts k_temporaryCounts k_keys k_kinds k_values k_temporaryKinds k_newKinds k_newValues d_open d_method d_family d_oldCount d_keptSet d_count d_sources d_keys d_defaults d_usedKeys) none := by
  refine IM.of (cc := cX4_look) (maxL := 5) (ret := none) (by decide) rfl (Nat.le_of_ble_eq_true rfl) ?_
  intro p e s m below meth c ls hx hb hr hml hown hts hlk hKK hP hD hS hl
  have hown : s.vm.findClass RX4 = some m.cls := hown
  have hl : lv_has ls 5 [(0, .ref a_g), (1, .ref a_k), (2, .int x2), (3, .ref a_d)] := hl
  generalize hav : ([.ref a_g, .ref a_k, .int x2, .ref a_d] : List Value) = av at hts ⊢
  generalize hw1 : W_g_k_d cI cM a_g a_g_kinds a_g_positions a_k a_k_staticType a_k_dynamicType a_k_target a_k_argumentCounts a_k_temporaryCounts a_k_keys a_k_kinds a_k_values a_k_temporaryKinds a_k_newKinds a_k_newValues a_d a_d_sources a_d_keys a_d_defaults r_g_count r_g_kept r_g_kinds r_g_positions k_count k_frozenSet k_staticType k_dynamicType k_target k_argumentCounts k_temporaryCounts k_keys k_kinds k_values k_temporaryKinds k_newKinds k_newValues d_open d_method d_family d_oldCount d_keptSet d_count d_sources d_keys d_defaults d_usedKeys = w1
  generalize hw0 : W_g_k_d cI cM a_g a_g_kinds a_g_positions a_k a_k_staticType a_k_dynamicType a_k_target a_k_argumentCounts a_k_temporaryCounts a_k_keys a_k_kinds a_k_values a_k_temporaryKinds a_k_newKinds a_k_newValues a_d a_d_sources a_d_keys a_d_defaults g_count g_kept g_kinds g_positions k_count k_frozenSet k_staticType k_dynamicType k_target k_argumentCounts k_temporaryCounts k_keys k_kinds k_values k_temporaryKinds k_newKinds k_newValues d_open d_method d_family d_oldCount d_keptSet d_count d_sources d_keys d_defaults d_usedKeys = w0 at hD hS ⊢
  have hP : va_P D vwCl (W_g_k_d cI cM a_g a_g_kinds a_g_positions a_k a_k_staticType a_k_dynamicType a_k_target a_k_argumentCounts a_k_temporaryCounts a_k_keys a_k_kinds a_k_values a_k_temporaryKinds a_k_newKinds a_k_newValues a_d a_d_sources a_d_keys a_d_defaults g_count g_kept g_kinds g_positions k_count k_frozenSet k_staticType k_dynamicType k_target k_argumentCounts k_temporaryCounts k_keys k_kinds k_values k_temporaryKinds k_newKinds k_newValues d_open d_method d_family d_oldCount d_keptSet d_count d_sources d_keys d_defaults d_usedKeys) s.heap := hP
  have hD : va_D (fun q => q ∈ w0.map (·.1)) (W_g_k_d cI cM a_g a_g_kinds a_g_positions a_k a_k_staticType a_k_dynamicType a_k_target a_k_argumentCounts a_k_temporaryCounts a_k_keys a_k_kinds a_k_values a_k_temporaryKinds a_k_newKinds a_k_newValues a_d a_d_sources a_d_keys a_d_defaults g_count g_kept g_kinds g_positions k_count k_frozenSet k_staticType k_dynamicType k_target k_argumentCounts k_temporaryCounts k_keys k_kinds k_values k_temporaryKinds k_newKinds k_newValues d_open d_method d_family d_oldCount d_keptSet d_count d_sources d_keys d_defaults d_usedKeys) := by rw [hw0]; exact hD
  have SS : CallFix p m c cX4_look 5 s av.toArray wsX4_look RX4 := ⟨hx, hb, hml, hown, hts⟩
  have hinX0 : ∀ w ∈ u_ws RX0 TX0 13, w ∈ wsX4_look := by decide +kernel
  have hinX1 : ∀ w ∈ u_ws RX1 TX1 10, w ∈ wsX4_look := by decide +kernel
  have hinX4 : ∀ w ∈ u_ws RX4 TX4 4, w ∈ wsX4_look := by decide +kernel
  have lk9 := hts (.fieldLink RX4 9 "SignatureChanger$Hoisting" "kinds" "[I") (List.mem_of_getElem? (i := 5) rfl)
  have lk15 := hts (.fieldLink RX4 15 "SignatureChanger$Hoisting" "positions" "[I") (List.mem_of_getElem? (i := 8) rfl)
  have lk26 := hts (.fieldLink RX4 26 "SignatureChanger$Hoisting" "kept" "I") (List.mem_of_getElem? (i := 4) rfl)
  have lk42 := hts (.fieldLink RX4 42 "SignatureChanger$Calls" "argumentCounts" "[I") (List.mem_of_getElem? (i := 1) rfl)
  have lk47 := hts (.fieldLink RX4 47 "SignatureChanger$Hoisting" "count" "I") (List.mem_of_getElem? (i := 2) rfl)
  have lk50 := hts (.fieldLink RX4 50 "SignatureChanger$Draft" "keptSet" "I") (List.mem_of_getElem? (i := 3) rfl)
  have lk59 := hts (.fieldLink RX4 59 "SignatureChanger$Draft" "count" "I") (List.mem_of_getElem? (i := 6) rfl)
  have lk60 := hts (.fieldLink RX4 60 "SignatureChanger$Draft" "sources" "[I") (List.mem_of_getElem? (i := 7) rfl)
  have cw55 : CallW rmX4_look s av.toArray RX4 RX0 55 yX0_kindOf cX0_kindOf 3 (some .int) wsX0_kindOf rmX0_kindOf 0 0 2 := cwV 2 hts gX4_look_X0_kindOf rfl rfl rfl (by decide +kernel) ⟨Nat.le_of_ble_eq_true rfl, Nat.le_of_ble_eq_true rfl⟩
  have F53 : ∀ (n : Nat) (H : Heap) (locs : List Loc) (g_count : Int32) (g_kept : Int32) (g_kinds : Nat → Int32) (g_positions : Nat → Int32) (y4 : Int32), lX4_look_53 k_argumentCounts k_kinds d_keptSet d_count d_sources n g_count g_kept g_kinds g_positions y4 = some (r_g_count, r_g_kept, r_g_kinds, r_g_positions) → va_P D vwCl (W_g_k_d cI cM a_g a_g_kinds a_g_positions a_k a_k_staticType a_k_dynamicType a_k_target a_k_argumentCounts a_k_temporaryCounts a_k_keys a_k_kinds a_k_values a_k_temporaryKinds a_k_newKinds a_k_newValues a_d a_d_sources a_d_keys a_d_defaults g_count g_kept g_kinds g_positions k_count k_frozenSet k_staticType k_dynamicType k_target k_argumentCounts k_temporaryCounts k_keys k_kinds k_values k_temporaryKinds k_newKinds k_newValues d_open d_method d_family d_oldCount d_keptSet d_count d_sources d_keys d_defaults d_usedKeys) H → va_D (fun q => q ∈ (w0).map (·.1)) (W_g_k_d cI cM a_g a_g_kinds a_g_positions a_k a_k_staticType a_k_dynamicType a_k_target a_k_argumentCounts a_k_temporaryCounts a_k_keys a_k_kinds a_k_values a_k_temporaryKinds a_k_newKinds a_k_newValues a_d a_d_sources a_d_keys a_d_defaults g_count g_kept g_kinds g_positions k_count k_frozenSet k_staticType k_dynamicType k_target k_argumentCounts k_temporaryCounts k_keys k_kinds k_values k_temporaryKinds k_newKinds k_newValues d_open d_method d_family d_oldCount d_keptSet d_count d_sources d_keys d_defaults d_usedKeys) → va_S (fun q => q ∈ (w0).map (·.1)) s.heap H locs → ∀ ls : Array Slot, lv_has ls 5 [(0, .ref a_g), (3, .ref a_d), (4, .int y4)] → WI p l e rmX4_look s m av below meth c D w0 w1 none H locs 53 ls [] := by
    intro n
    induction n with
    | zero => intro H locs g_count g_kept g_kinds g_positions y4 h; exact no_some h
    | succ n ih =>
      intro H locs g_count g_kept g_kinds g_positions y4 h hP hD hS ls hl
      rw [lX4_look_53_s] at h
      refine lv_iload hx hb dX4_look_53 (lv_at hl 2 rfl) ?_
      refine lv_aload_n hx hb dX4_look_55 rfl (lv_at hl 1 rfl) ?_
      refine va_get (D := D) (ci := 1) (v := .int d_count) (C := RX1) (T := TX1) (N := 10) hx hb hts hinX1 hown hKK.1 hP 15 rfl rfl 5 (by decide) lk59 (fun _ h9 => h9) rfl dX4_look_56 ?_
      refine lv_icmp_ge (tgt := 93) hx hb dX4_look_59 (by decide) (fun c1 => ?_) (fun c1 => ?_)
      · have h := ifp h c1
        simp only [Option.some.injEq, Prod.mk.injEq] at h
        obtain ⟨e0, e1, e2, e3⟩ := h
        exact kRetV hx hb hr hlk (by rw [← hw1, ← e0, ← e1, ← e2, ← e3]; exact hP) hS dX4_look_93
      · have h := ifn h c1
        refine lv_aload_n hx hb dX4_look_62 rfl (lv_at hl 1 rfl) ?_
        refine va_get (D := D) (ci := 1) (v := .ref a_d_sources) (C := RX1) (T := TX1) (N := 10) hx hb hts hinX1 hown hKK.1 hP 15 rfl rfl 6 (by decide) lk60 (fun _ h9 => h9) rfl dX4_look_63 ?_
        refine lv_iload hx hb dX4_look_66 (lv_at hl 2 rfl) ?_
        obtain ⟨v2, iv2, ev2, h⟩ := rd_some h
        refine kAld hx hb hKK hP 16 rfl iv2 ev2 dX4_look_68 ?_
        refine lv_iconst (v := (-1)) hx hb dX4_look_69 (by decide) ?_
        refine lv_icmp_eq (tgt := 87) hx hb dX4_look_70 (by decide) (fun c3 => ?_) (fun c3 => ?_)
        · have h := ifp h c3
          refine lv_iinc (v := y4 + 1) (lv' := [(4, .int (y4 + 1)), (0, .ref a_g), (3, .ref a_d)]) hx hb dX4_look_87 hl (k := 2) rfl rfl (by decide) rfl (fun ls hl => ?_)
          refine lv_goto (tgt := 53) hx hb dX4_look_90 (by decide) ?_
          exact ih H locs g_count g_kept g_kinds g_positions (y4 + 1) h hP hD hS ls (lv_sub (l' := [(0, .ref a_g), (3, .ref a_d), (4, .int (y4 + 1))]) hl [1, 2, 0] rfl)
        · have h := ifn h c3
          refine lv_aload_n hx hb dX4_look_73 rfl (lv_at hl 0 rfl) ?_
          refine va_get (D := D) (ci := 4) (v := .ref a_g_positions) (C := RX4) (T := TX4) (N := 4) hx hb hts hinX4 hown hKK.1 hP 0 rfl rfl 3 (by decide) lk15 (fun _ h9 => h9) rfl dX4_look_74 ?_
          refine lv_aload_n hx hb dX4_look_77 rfl (lv_at hl 1 rfl) ?_
          refine va_get (D := D) (ci := 1) (v := .ref a_d_sources) (C := RX1) (T := TX1) (N := 10) hx hb hts hinX1 hown hKK.1 hP 15 rfl rfl 6 (by decide) lk60 (fun _ h9 => h9) rfl dX4_look_78 ?_
          refine lv_iload hx hb dX4_look_81 (lv_at hl 2 rfl) ?_
          obtain ⟨v4, iv4, ev4, h⟩ := rd_some h
          refine kAld hx hb hKK hP 16 rfl iv4 ev4 dX4_look_83 ?_
          refine lv_iload hx hb dX4_look_84 (lv_at hl 2 rfl) ?_
          obtain ⟨g5, ig5, eg5, h⟩ := wr_some h
          refine kAst hx hb hKK hP hD hS 2 rfl ig5 eg5 dX4_look_86 (fun H locs hP hD hS => ?_)
          have hP : va_P D vwCl (W_g_k_d cI cM a_g a_g_kinds a_g_positions a_k a_k_staticType a_k_dynamicType a_k_target a_k_argumentCounts a_k_temporaryCounts a_k_keys a_k_kinds a_k_values a_k_temporaryKinds a_k_newKinds a_k_newValues a_d a_d_sources a_d_keys a_d_defaults g_count g_kept g_kinds g5 k_count k_frozenSet k_staticType k_dynamicType k_target k_argumentCounts k_temporaryCounts k_keys k_kinds k_values k_temporaryKinds k_newKinds k_newValues d_open d_method d_family d_oldCount d_keptSet d_count d_sources d_keys d_defaults d_usedKeys) H := hP
          have hD : va_D _ (W_g_k_d cI cM a_g a_g_kinds a_g_positions a_k a_k_staticType a_k_dynamicType a_k_target a_k_argumentCounts a_k_temporaryCounts a_k_keys a_k_kinds a_k_values a_k_temporaryKinds a_k_newKinds a_k_newValues a_d a_d_sources a_d_keys a_d_defaults g_count g_kept g_kinds g5 k_count k_frozenSet k_staticType k_dynamicType k_target k_argumentCounts k_temporaryCounts k_keys k_kinds k_values k_temporaryKinds k_newKinds k_newValues d_open d_method d_family d_oldCount d_keptSet d_count d_sources d_keys d_defaults d_usedKeys) := hD
          refine lv_iinc (v := y4 + 1) (lv' := [(4, .int (y4 + 1)), (0, .ref a_g), (3, .ref a_d)]) hx hb dX4_look_87 hl (k := 2) rfl rfl (by decide) rfl (fun ls hl => ?_)
          refine lv_goto (tgt := 53) hx hb dX4_look_90 (by decide) ?_
          exact ih H locs g_count g_kept g_kinds g5 (y4 + 1) h hP hD hS ls (lv_sub (l' := [(0, .ref a_g), (3, .ref a_d), (4, .int (y4 + 1))]) hl [1, 2, 0] rfl)
  have F21 : ∀ (n : Nat) (H : Heap) (locs : List Loc) (g_count : Int32) (g_kept : Int32) (g_kinds : Nat → Int32) (g_positions : Nat → Int32) (y2 : Int32) (y4 : Int32), lX4_look_21 k_argumentCounts k_kinds d_keptSet d_count d_sources n g_count g_kept g_kinds g_positions y2 y4 = some (r_g_count, r_g_kept, r_g_kinds, r_g_positions) → va_P D vwCl (W_g_k_d cI cM a_g a_g_kinds a_g_positions a_k a_k_staticType a_k_dynamicType a_k_target a_k_argumentCounts a_k_temporaryCounts a_k_keys a_k_kinds a_k_values a_k_temporaryKinds a_k_newKinds a_k_newValues a_d a_d_sources a_d_keys a_d_defaults g_count g_kept g_kinds g_positions k_count k_frozenSet k_staticType k_dynamicType k_target k_argumentCounts k_temporaryCounts k_keys k_kinds k_values k_temporaryKinds k_newKinds k_newValues d_open d_method d_family d_oldCount d_keptSet d_count d_sources d_keys d_defaults d_usedKeys) H → va_D (fun q => q ∈ (w0).map (·.1)) (W_g_k_d cI cM a_g a_g_kinds a_g_positions a_k a_k_staticType a_k_dynamicType a_k_target a_k_argumentCounts a_k_temporaryCounts a_k_keys a_k_kinds a_k_values a_k_temporaryKinds a_k_newKinds a_k_newValues a_d a_d_sources a_d_keys a_d_defaults g_count g_kept g_kinds g_positions k_count k_frozenSet k_staticType k_dynamicType k_target k_argumentCounts k_temporaryCounts k_keys k_kinds k_values k_temporaryKinds k_newKinds k_newValues d_open d_method d_family d_oldCount d_keptSet d_count d_sources d_keys d_defaults d_usedKeys) → va_S (fun q => q ∈ (w0).map (·.1)) s.heap H locs → ∀ ls : Array Slot, lv_has ls 5 [(0, .ref a_g), (1, .ref a_k), (2, .int y2), (3, .ref a_d), (4, .int y4)] → WI p l e rmX4_look s m av below meth c D w0 w1 none H locs 21 ls [] := by
    intro n
    induction n with
    | zero => intro H locs g_count g_kept g_kinds g_positions y2 y4 h; exact no_some h
    | succ n ih =>
      intro H locs g_count g_kept g_kinds g_positions y2 y4 h hP hD hS ls hl
      rw [lX4_look_21_s] at h
      refine lv_iload hx hb dX4_look_21 (lv_at hl 4 rfl) ?_
      refine lv_aload_n hx hb dX4_look_23 rfl (lv_at hl 0 rfl) ?_
      refine va_get (D := D) (ci := 4) (v := .int g_count) (C := RX4) (T := TX4) (N := 4) hx hb hts hinX4 hown hKK.1 hP 0 rfl rfl 0 (by decide) lk47 (fun _ h9 => h9) rfl dX4_look_24 ?_
      refine lv_icmp_ge (tgt := 50) hx hb dX4_look_27 (by decide) (fun c1 => ?_) (fun c1 => ?_)
      · have h := ifp h c1
        refine lv_iconst (v := 0) hx hb dX4_look_50 (by decide) ?_
        refine lv_istore (lv' := [(4, .int 0), (0, .ref a_g), (1, .ref a_k), (2, .int y2), (3, .ref a_d)]) hx hb dX4_look_51 hl (by decide) rfl (fun ls hl => ?_)
        exact F53 5000 H locs g_count g_kept g_kinds g_positions 0 h hP hD hS ls (lv_sub (l' := [(0, .ref a_g), (3, .ref a_d), (4, .int 0)]) hl [1, 4, 0] rfl)
      · have h := ifn h c1
        refine lv_aload_n hx hb dX4_look_30 rfl (lv_at hl 0 rfl) ?_
        refine va_get (D := D) (ci := 4) (v := .ref a_g_kinds) (C := RX4) (T := TX4) (N := 4) hx hb hts hinX4 hown hKK.1 hP 0 rfl rfl 2 (by decide) lk9 (fun _ h9 => h9) rfl dX4_look_31 ?_
        refine lv_iload hx hb dX4_look_34 (lv_at hl 4 rfl) ?_
        refine lv_aload_n hx hb dX4_look_36 rfl (lv_at hl 1 rfl) ?_
        refine lv_iload_n hx hb dX4_look_37 rfl (lv_at hl 2 rfl) ?_
        refine lv_iload hx hb dX4_look_38 (lv_at hl 4 rfl) ?_
        obtain ⟨v2, ev2, h⟩ := bn_some h
        have hs3 : va_P D vwCl (W_k cI cM a_k a_k_staticType a_k_dynamicType a_k_target a_k_argumentCounts a_k_temporaryCounts a_k_keys a_k_kinds a_k_values a_k_temporaryKinds a_k_newKinds a_k_newValues k_count k_frozenSet k_staticType k_dynamicType k_target k_argumentCounts k_temporaryCounts k_keys k_kinds k_values k_temporaryKinds k_newKinds k_newValues) _ := blkP (Bs := [B_g cI cM a_g a_g_kinds a_g_positions g_count g_kept g_kinds g_positions, B_k cI cM a_k a_k_staticType a_k_dynamicType a_k_target a_k_argumentCounts a_k_temporaryCounts a_k_keys a_k_kinds a_k_values a_k_temporaryKinds a_k_newKinds a_k_newValues k_count k_frozenSet k_staticType k_dynamicType k_target k_argumentCounts k_temporaryCounts k_keys k_kinds k_values k_temporaryKinds k_newKinds k_newValues, B_d cI cM a_d a_d_sources a_d_keys a_d_defaults d_open d_method d_family d_oldCount d_keptSet d_count d_sources d_keys d_defaults d_usedKeys]) hP [1] (C0 := [B_k cI cM a_k a_k_staticType a_k_dynamicType a_k_target a_k_argumentCounts a_k_temporaryCounts a_k_keys a_k_kinds a_k_values a_k_temporaryKinds a_k_newKinds a_k_newValues k_count k_frozenSet k_staticType k_dynamicType k_target k_argumentCounts k_temporaryCounts k_keys k_kinds k_values k_temporaryKinds k_newKinds k_newValues]) rfl rfl
        refine kV (As := [.int y2, .int y4]) (rest := [.int y4, .ref a_g_kinds]) SS hKK (qX0_kindOf l D cI cM a_k a_k_staticType a_k_dynamicType a_k_target a_k_argumentCounts a_k_temporaryCounts a_k_keys a_k_kinds a_k_values a_k_temporaryKinds a_k_newKinds a_k_newValues k_count k_frozenSet k_staticType k_dynamicType k_target k_argumentCounts k_temporaryCounts k_keys k_kinds k_values k_temporaryKinds k_newKinds k_newValues y2 y4 v2 ev2) cw55 hs3 0 0 rfl rfl rfl hl.1 rfl (Nat.le_of_ble_eq_true rfl) dX4_look_40 ⟨Nat.zero_le _, Nat.zero_le _⟩ ?_
        obtain ⟨g4, ig4, eg4, h⟩ := wr_some h
        refine kAst hx hb hKK hP hD hS 1 rfl ig4 eg4 dX4_look_43 (fun H locs hP hD hS => ?_)
        have hP : va_P D vwCl (W_g_k_d cI cM a_g a_g_kinds a_g_positions a_k a_k_staticType a_k_dynamicType a_k_target a_k_argumentCounts a_k_temporaryCounts a_k_keys a_k_kinds a_k_values a_k_temporaryKinds a_k_newKinds a_k_newValues a_d a_d_sources a_d_keys a_d_defaults g_count g_kept g4 g_positions k_count k_frozenSet k_staticType k_dynamicType k_target k_argumentCounts k_temporaryCounts k_keys k_kinds k_values k_temporaryKinds k_newKinds k_newValues d_open d_method d_family d_oldCount d_keptSet d_count d_sources d_keys d_defaults d_usedKeys) H := hP
        have hD : va_D _ (W_g_k_d cI cM a_g a_g_kinds a_g_positions a_k a_k_staticType a_k_dynamicType a_k_target a_k_argumentCounts a_k_temporaryCounts a_k_keys a_k_kinds a_k_values a_k_temporaryKinds a_k_newKinds a_k_newValues a_d a_d_sources a_d_keys a_d_defaults g_count g_kept g4 g_positions k_count k_frozenSet k_staticType k_dynamicType k_target k_argumentCounts k_temporaryCounts k_keys k_kinds k_values k_temporaryKinds k_newKinds k_newValues d_open d_method d_family d_oldCount d_keptSet d_count d_sources d_keys d_defaults d_usedKeys) := hD
        refine lv_iinc (v := y4 + 1) (lv' := [(4, .int (y4 + 1)), (0, .ref a_g), (1, .ref a_k), (2, .int y2), (3, .ref a_d)]) hx hb dX4_look_44 hl (k := 4) rfl rfl (by decide) rfl (fun ls hl => ?_)
        refine lv_goto (tgt := 21) hx hb dX4_look_47 (by decide) ?_
        exact ih H locs g_count g_kept g4 g_positions y2 (y4 + 1) h hP hD hS ls (lv_sub (l' := [(0, .ref a_g), (1, .ref a_k), (2, .int y2), (3, .ref a_d), (4, .int (y4 + 1))]) hl [1, 2, 3, 4, 0] rfl)
  unfold fX4_look at h
  refine lv_aload_n hx hb dX4_look_0 rfl (lv_at hl 0 rfl) ?_
  refine lv_aload_n hx hb dX4_look_1 rfl (lv_at hl 1 rfl) ?_
  refine va_get (D := D) (ci := 0) (v := .ref a_k_argumentCounts) (C := RX0) (T := TX0) (N := 13) hx hb hts hinX0 hown hKK.1 hP 3 rfl rfl 5 (by decide) lk42 (fun _ h9 => h9) rfl dX4_look_2 ?_
  refine lv_iload_n hx hb dX4_look_5 rfl (lv_at hl 2 rfl) ?_
  obtain ⟨v1, iv1, ev1, h⟩ := rd_some h
  refine kAld hx hb hKK hP 7 rfl iv1 ev1 dX4_look_6 ?_
  refine va_put (D := D) (ci := 4) (v := .int v1) (ty := .int) (C := RX4) (T := TX4) (N := 4) hx hb hts hinX4 tyX4 tyX4_ok nmX4 hown hKK.1 hP hD hS 0 rfl rfl 0 (by decide) lk47 (fun _ h9 => h9) rfl (by decide +kernel) rfl rfl (Nat.le_of_ble_eq_true rfl) dX4_look_7 (fun H locs hP hD hS => ?_)
  have hP : va_P D vwCl (W_g_k_d cI cM a_g a_g_kinds a_g_positions a_k a_k_staticType a_k_dynamicType a_k_target a_k_argumentCounts a_k_temporaryCounts a_k_keys a_k_kinds a_k_values a_k_temporaryKinds a_k_newKinds a_k_newValues a_d a_d_sources a_d_keys a_d_defaults v1 g_kept g_kinds g_positions k_count k_frozenSet k_staticType k_dynamicType k_target k_argumentCounts k_temporaryCounts k_keys k_kinds k_values k_temporaryKinds k_newKinds k_newValues d_open d_method d_family d_oldCount d_keptSet d_count d_sources d_keys d_defaults d_usedKeys) H := hP
  have hD : va_D _ (W_g_k_d cI cM a_g a_g_kinds a_g_positions a_k a_k_staticType a_k_dynamicType a_k_target a_k_argumentCounts a_k_temporaryCounts a_k_keys a_k_kinds a_k_values a_k_temporaryKinds a_k_newKinds a_k_newValues a_d a_d_sources a_d_keys a_d_defaults v1 g_kept g_kinds g_positions k_count k_frozenSet k_staticType k_dynamicType k_target k_argumentCounts k_temporaryCounts k_keys k_kinds k_values k_temporaryKinds k_newKinds k_newValues d_open d_method d_family d_oldCount d_keptSet d_count d_sources d_keys d_defaults d_usedKeys) := hD
  refine lv_aload_n hx hb dX4_look_10 rfl (lv_at hl 0 rfl) ?_
  refine lv_aload_n hx hb dX4_look_11 rfl (lv_at hl 3 rfl) ?_
  refine va_get (D := D) (ci := 1) (v := .int d_keptSet) (C := RX1) (T := TX1) (N := 10) hx hb hts hinX1 hown hKK.1 hP 15 rfl rfl 4 (by decide) lk50 (fun _ h9 => h9) rfl dX4_look_12 ?_
  refine va_put (D := D) (ci := 4) (v := .int d_keptSet) (ty := .int) (C := RX4) (T := TX4) (N := 4) hx hb hts hinX4 tyX4 tyX4_ok nmX4 hown hKK.1 hP hD hS 0 rfl rfl 1 (by decide) lk26 (fun _ h9 => h9) rfl (by decide +kernel) rfl rfl (Nat.le_of_ble_eq_true rfl) dX4_look_15 (fun H locs hP hD hS => ?_)
  have hP : va_P D vwCl (W_g_k_d cI cM a_g a_g_kinds a_g_positions a_k a_k_staticType a_k_dynamicType a_k_target a_k_argumentCounts a_k_temporaryCounts a_k_keys a_k_kinds a_k_values a_k_temporaryKinds a_k_newKinds a_k_newValues a_d a_d_sources a_d_keys a_d_defaults v1 d_keptSet g_kinds g_positions k_count k_frozenSet k_staticType k_dynamicType k_target k_argumentCounts k_temporaryCounts k_keys k_kinds k_values k_temporaryKinds k_newKinds k_newValues d_open d_method d_family d_oldCount d_keptSet d_count d_sources d_keys d_defaults d_usedKeys) H := hP
  have hD : va_D _ (W_g_k_d cI cM a_g a_g_kinds a_g_positions a_k a_k_staticType a_k_dynamicType a_k_target a_k_argumentCounts a_k_temporaryCounts a_k_keys a_k_kinds a_k_values a_k_temporaryKinds a_k_newKinds a_k_newValues a_d a_d_sources a_d_keys a_d_defaults v1 d_keptSet g_kinds g_positions k_count k_frozenSet k_staticType k_dynamicType k_target k_argumentCounts k_temporaryCounts k_keys k_kinds k_values k_temporaryKinds k_newKinds k_newValues d_open d_method d_family d_oldCount d_keptSet d_count d_sources d_keys d_defaults d_usedKeys) := hD
  refine lv_iconst (v := 0) hx hb dX4_look_18 (by decide) ?_
  refine lv_istore (lv' := [(4, .int 0), (0, .ref a_g), (1, .ref a_k), (2, .int x2), (3, .ref a_d)]) hx hb dX4_look_19 hl (by decide) rfl (fun ls hl => ?_)
  exact F21 5000 H locs v1 d_keptSet g_kinds g_positions x2 0 h hP hD hS ls (lv_sub (l' := [(0, .ref a_g), (1, .ref a_k), (2, .int x2), (3, .ref a_d), (4, .int 0)]) hl [1, 2, 3, 4, 0] rfl)
set_option maxHeartbeats 8000000 in
set_option maxRecDepth 100000 in
theorem qX4_ofKind (l : Launch) (D : va_G) (cI cM : ClassId) (a_g a_g_kinds a_g_positions : Nat) (g_count : Int32) (g_kept : Int32) (g_kinds : Nat → Int32) (g_positions : Nat → Int32) (x1 : Int32) (r : Int32) (h : fX4_ofKind g_count g_kinds x1 = some r) : PM l yX4_ofKind wsX4_ofKind rmX4_ofKind D cI cM [.ref a_g, .int x1] (W_g cI cM a_g a_g_kinds a_g_positions g_count g_kept g_kinds g_positions) r := by
  refine PM.of (cc := cX4_ofKind) (maxL := 4) (ret := (some .int)) (by decide) rfl (Nat.le_of_ble_eq_true rfl) ?_
  intro p e s m below meth c ls hx hb hr hml hown hts hlk hP hKK hl
  have hown : s.vm.findClass RX4 = some m.cls := hown
  have hl : lv_has ls 4 [(0, .ref a_g), (1, .int x1)] := hl
  generalize hav : ([.ref a_g, .int x1] : List Value) = av at hts ⊢
  have SS : CallFix p m c cX4_ofKind 4 s av.toArray wsX4_ofKind RX4 := ⟨hx, hb, hml, hown, hts⟩
  have hinX4 : ∀ w ∈ u_ws RX4 TX4 4, w ∈ wsX4_ofKind := by decide +kernel
  have lk9 := hts (.fieldLink RX4 9 "SignatureChanger$Hoisting" "kinds" "[I") (List.mem_of_getElem? (i := 2) rfl)
  have lk47 := hts (.fieldLink RX4 47 "SignatureChanger$Hoisting" "count" "I") (List.mem_of_getElem? (i := 1) rfl)
  have cw30 : va_CN rmX4_ofKind s av.toArray RX4 30 yX8_bit RX8 cX8_bit 1 (some .int) wsX8_bit rmX8_bit 0 0 1 ∧ (Cond.static yX8_bit).before av.toArray s = true ∧ True := ⟨va_cnB 1 hts gX4_ofKind_X8_bit_n30 rfl rfl rfl (hKK.2.at 21 rfl) (hts (.initialized RX8) (List.mem_of_getElem? (i := 4) rfl)) (by decide +kernel) ⟨Nat.le_of_ble_eq_true rfl, Nat.le_of_ble_eq_true rfl⟩, hts (.static yX8_bit) (List.mem_of_getElem? (i := 3) rfl), trivial⟩
  have F4 : ∀ (n : Nat) (y1 : Int32) (y2 : Int32) (y3 : Int32), lX4_ofKind_4 g_count g_kinds n y1 y2 y3 = some r → ∀ ls : Array Slot, lv_has ls 4 [(0, .ref a_g), (1, .int y1), (2, .int y2), (3, .int y3)] → WP p l e rmX4_ofKind s m av below meth c r 4 ls [] := by
    intro n
    induction n with
    | zero => intro y1 y2 y3 h; exact no_some h
    | succ n ih =>
      intro y1 y2 y3 h ls hl
      rw [lX4_ofKind_4_s] at h
      refine lv_iload_n hx hb dX4_ofKind_4 rfl (lv_at hl 3 rfl) ?_
      refine lv_aload_n hx hb dX4_ofKind_5 rfl (lv_at hl 0 rfl) ?_
      refine va_get (D := D) (ci := 4) (v := .int g_count) (C := RX4) (T := TX4) (N := 4) hx hb hts hinX4 hown hKK.1 hP 0 rfl rfl 0 (by decide) lk47 (fun _ h9 => h9) rfl dX4_ofKind_6 ?_
      refine lv_icmp_ge (tgt := 35) hx hb dX4_ofKind_9 (by decide) (fun c1 => ?_) (fun c1 => ?_)
      · have h := ifp h c1
        refine lv_iload_n hx hb dX4_ofKind_35 rfl (lv_at hl 2 rfl) ?_
        exact kRet hx hb hr hlk (Option.some.inj h) dX4_ofKind_36
      · have h := ifn h c1
        refine lv_aload_n hx hb dX4_ofKind_12 rfl (lv_at hl 0 rfl) ?_
        refine va_get (D := D) (ci := 4) (v := .ref a_g_kinds) (C := RX4) (T := TX4) (N := 4) hx hb hts hinX4 hown hKK.1 hP 0 rfl rfl 2 (by decide) lk9 (fun _ h9 => h9) rfl dX4_ofKind_13 ?_
        refine lv_iload_n hx hb dX4_ofKind_16 rfl (lv_at hl 3 rfl) ?_
        obtain ⟨v2, iv2, ev2, h⟩ := rd_some h
        refine kAld hx hb hKK hP 1 rfl iv2 ev2 dX4_ofKind_17 ?_
        refine lv_iload_n hx hb dX4_ofKind_18 rfl (lv_at hl 1 rfl) ?_
        refine lv_icmp_ne (tgt := 29) hx hb dX4_ofKind_19 (by decide) (fun c3 => ?_) (fun c3 => ?_)
        · have h := ifn h c3
          refine lv_iinc (v := y3 + 1) (lv' := [(3, .int (y3 + 1)), (0, .ref a_g), (1, .int y1), (2, .int y2)]) hx hb dX4_ofKind_29 hl (k := 3) rfl rfl (by decide) rfl (fun ls hl => ?_)
          refine lv_goto (tgt := 4) hx hb dX4_ofKind_32 (by decide) ?_
          exact ih y1 y2 (y3 + 1) h ls (lv_sub (l' := [(0, .ref a_g), (1, .int y1), (2, .int y2), (3, .int (y3 + 1))]) hl [1, 2, 3, 0] rfl)
        · have h := ifp h c3
          refine lv_iload_n hx hb dX4_ofKind_22 rfl (lv_at hl 2 rfl) ?_
          refine lv_iload_n hx hb dX4_ofKind_23 rfl (lv_at hl 3 rfl) ?_
          obtain ⟨v4, ev4, h⟩ := bn_some h
          refine kSN (As := [.int y3]) (rest := [.int y2]) SS hKK (qX8_bit l D cI cM y3 v4 ev4) cw30 va_P_nil rfl hl.1 rfl (Nat.le_of_ble_eq_true rfl) dX4_ofKind_24 ⟨Nat.zero_le _, Nat.zero_le _⟩ ?_
          refine lv_ior hx hb dX4_ofKind_27 ?_
          refine lv_istore_n (lv' := [(2, .int (y2 ||| v4)), (0, .ref a_g), (1, .int y1), (3, .int y3)]) hx hb dX4_ofKind_28 rfl hl (by decide) rfl (fun ls hl => ?_)
          refine lv_iinc (v := y3 + 1) (lv' := [(3, .int (y3 + 1)), (2, .int (y2 ||| v4)), (0, .ref a_g), (1, .int y1)]) hx hb dX4_ofKind_29 hl (k := 3) rfl rfl (by decide) rfl (fun ls hl => ?_)
          refine lv_goto (tgt := 4) hx hb dX4_ofKind_32 (by decide) ?_
          exact ih y1 (y2 ||| v4) (y3 + 1) h ls (lv_sub (l' := [(0, .ref a_g), (1, .int y1), (2, .int (y2 ||| v4)), (3, .int (y3 + 1))]) hl [2, 3, 1, 0] rfl)
  unfold fX4_ofKind at h
  refine lv_iconst (v := 0) hx hb dX4_ofKind_0 (by decide) ?_
  refine lv_istore_n (lv' := [(2, .int 0), (0, .ref a_g), (1, .int x1)]) hx hb dX4_ofKind_1 rfl hl (by decide) rfl (fun ls hl => ?_)
  refine lv_iconst (v := 0) hx hb dX4_ofKind_2 (by decide) ?_
  refine lv_istore_n (lv' := [(3, .int 0), (2, .int 0), (0, .ref a_g), (1, .int x1)]) hx hb dX4_ofKind_3 rfl hl (by decide) rfl (fun ls hl => ?_)
  exact F4 5000 x1 0 0 h ls (lv_sub (l' := [(0, .ref a_g), (1, .int x1), (2, .int 0), (3, .int 0)]) hl [2, 3, 1, 0] rfl)
set_option maxHeartbeats 8000000 in
set_option maxRecDepth 100000 in
theorem qX8_conflict (l : Launch) (D : va_G) (cI cM : ClassId) (x0 : Int32) (x1 : Int32) (r : Int32) (h : fX8_conflict x0 x1 = some r) : PM l yX8_conflict wsX8_conflict rmX8_conflict D cI cM [.int x0, .int x1] ([]) r := by
  refine PM.of (cc := cX8_conflict) (maxL := 4) (ret := (some .boolean)) (by decide) rfl (Nat.le_of_ble_eq_true rfl) ?_
  intro p e s m below meth c ls hx hb hr hml hown hts hlk hP hKK hl
  have hown : s.vm.findClass RX8 = some m.cls := hown
  have hl : lv_has ls 4 [(0, .int x0), (1, .int x1)] := hl
  generalize hav : ([.int x0, .int x1] : List Value) = av at hts ⊢
  have SS : CallFix p m c cX8_conflict 4 s av.toArray wsX8_conflict RX8 := ⟨hx, hb, hml, hown, hts⟩
  have F31 : ∀ (y0 : Int32) (y1 : Int32) (y2 : Int32) (s0 : Int32), jX8_conflict_31  y0 y1 y2 s0 = some r → ∀ ls : Array Slot, lv_has ls 4 [(0, .int y0), (1, .int y1), (2, .int y2)] → WP p l e rmX8_conflict s m av below meth c r 31 ls [.int s0] := by
    intro y0 y1 y2 s0 h ls hl
    unfold jX8_conflict_31 at h
    refine lv_istore_n (lv' := [(3, .int s0), (0, .int y0), (1, .int y1), (2, .int y2)]) hx hb dX8_conflict_31 rfl hl (by decide) rfl (fun ls hl => ?_)
    refine lv_iload_n hx hb dX8_conflict_32 rfl (lv_at hl 3 rfl) ?_
    refine lv_if_eq (tgt := 54) hx hb dX8_conflict_33 (by decide) (fun c1 => ?_) (fun c1 => ?_)
    · have h := ifp h c1
      refine lv_iconst (v := 0) hx hb dX8_conflict_54 (by decide) ?_
      exact kRetZ hx hb hr hlk rfl (Option.some.inj h) dX8_conflict_55
    · have h := ifn h c1
      refine lv_iload_n hx hb dX8_conflict_36 rfl (lv_at hl 0 rfl) ?_
      refine lv_if_eq (tgt := 54) hx hb dX8_conflict_37 (by decide) (fun c2 => ?_) (fun c2 => ?_)
      · have h := ifp h c2
        refine lv_iconst (v := 0) hx hb dX8_conflict_54 (by decide) ?_
        exact kRetZ hx hb hr hlk rfl (Option.some.inj h) dX8_conflict_55
      · have h := ifn h c2
        refine lv_iload_n hx hb dX8_conflict_40 rfl (lv_at hl 1 rfl) ?_
        refine lv_iconst (v := 2) hx hb dX8_conflict_41 (by decide) ?_
        refine lv_icmp_eq (tgt := 50) hx hb dX8_conflict_42 (by decide) (fun c3 => ?_) (fun c3 => ?_)
        · have h := ifp h c3
          refine lv_iconst (v := 1) hx hb dX8_conflict_50 (by decide) ?_
          refine lv_goto (tgt := 55) hx hb dX8_conflict_51 (by decide) ?_
          exact kRetZ hx hb hr hlk rfl (Option.some.inj h) dX8_conflict_55
        · have h := ifn h c3
          refine lv_iload_n hx hb dX8_conflict_45 rfl (lv_at hl 2 rfl) ?_
          refine lv_iconst (v := 2) hx hb dX8_conflict_46 (by decide) ?_
          refine lv_icmp_ne (tgt := 54) hx hb dX8_conflict_47 (by decide) (fun c4 => ?_) (fun c4 => ?_)
          · have h := ifn h c4
            refine lv_iconst (v := 0) hx hb dX8_conflict_54 (by decide) ?_
            exact kRetZ hx hb hr hlk rfl (Option.some.inj h) dX8_conflict_55
          · have h := ifp h c4
            refine lv_iconst (v := 1) hx hb dX8_conflict_50 (by decide) ?_
            refine lv_goto (tgt := 55) hx hb dX8_conflict_51 (by decide) ?_
            exact kRetZ hx hb hr hlk rfl (Option.some.inj h) dX8_conflict_55
  have F26 : ∀ (y0 : Int32) (y1 : Int32) (y2 : Int32), jX8_conflict_26  y0 y1 y2 = some r → ∀ ls : Array Slot, lv_has ls 4 [(0, .int y0), (1, .int y1), (2, .int y2)] → WP p l e rmX8_conflict s m av below meth c r 26 ls [] := by
    intro y0 y1 y2 h ls hl
    unfold jX8_conflict_26 at h
    refine lv_iconst (v := 1) hx hb dX8_conflict_26 (by decide) ?_
    refine lv_goto (tgt := 31) hx hb dX8_conflict_27 (by decide) ?_
    exact F31 y0 y1 y2 1 h ls (lv_sub (l' := [(0, .int y0), (1, .int y1), (2, .int y2)]) hl [0, 1, 2] rfl)
  have F15 : ∀ (y0 : Int32) (y1 : Int32) (s0 : Int32), jX8_conflict_15  y0 y1 s0 = some r → ∀ ls : Array Slot, lv_has ls 4 [(0, .int y0), (1, .int y1)] → WP p l e rmX8_conflict s m av below meth c r 15 ls [.int s0] := by
    intro y0 y1 s0 h ls hl
    unfold jX8_conflict_15 at h
    refine lv_istore_n (lv' := [(2, .int s0), (0, .int y0), (1, .int y1)]) hx hb dX8_conflict_15 rfl hl (by decide) rfl (fun ls hl => ?_)
    refine lv_iload_n hx hb dX8_conflict_16 rfl (lv_at hl 2 rfl) ?_
    refine lv_iconst (v := 1) hx hb dX8_conflict_17 (by decide) ?_
    refine lv_icmp_eq (tgt := 26) hx hb dX8_conflict_18 (by decide) (fun c1 => ?_) (fun c1 => ?_)
    · have h := ifp h c1
      exact F26 y0 y1 s0 h ls (lv_sub (l' := [(0, .int y0), (1, .int y1), (2, .int s0)]) hl [1, 2, 0] rfl)
    · have h := ifn h c1
      refine lv_iload_n hx hb dX8_conflict_21 rfl (lv_at hl 2 rfl) ?_
      refine lv_iconst (v := 2) hx hb dX8_conflict_22 (by decide) ?_
      refine lv_icmp_ne (tgt := 30) hx hb dX8_conflict_23 (by decide) (fun c2 => ?_) (fun c2 => ?_)
      · have h := ifn h c2
        refine lv_iconst (v := 0) hx hb dX8_conflict_30 (by decide) ?_
        exact F31 y0 y1 s0 0 h ls (lv_sub (l' := [(0, .int y0), (1, .int y1), (2, .int s0)]) hl [1, 2, 0] rfl)
      · have h := ifp h c2
        exact F26 y0 y1 s0 h ls (lv_sub (l' := [(0, .int y0), (1, .int y1), (2, .int s0)]) hl [1, 2, 0] rfl)
  have F10 : ∀ (y0 : Int32) (y1 : Int32), jX8_conflict_10  y0 y1 = some r → ∀ ls : Array Slot, lv_has ls 4 [(0, .int y0), (1, .int y1)] → WP p l e rmX8_conflict s m av below meth c r 10 ls [] := by
    intro y0 y1 h ls hl
    unfold jX8_conflict_10 at h
    refine lv_iconst (v := 1) hx hb dX8_conflict_10 (by decide) ?_
    refine lv_goto (tgt := 15) hx hb dX8_conflict_11 (by decide) ?_
    exact F15 y0 y1 1 h ls (lv_sub (l' := [(0, .int y0), (1, .int y1)]) hl [0, 1] rfl)
  unfold fX8_conflict at h
  refine lv_iload_n hx hb dX8_conflict_0 rfl (lv_at hl 0 rfl) ?_
  refine lv_iconst (v := 1) hx hb dX8_conflict_1 (by decide) ?_
  refine lv_icmp_eq (tgt := 10) hx hb dX8_conflict_2 (by decide) (fun c1 => ?_) (fun c1 => ?_)
  · have h := ifp h c1
    exact F10 x0 x1 h ls (lv_sub (l' := [(0, .int x0), (1, .int x1)]) hl [0, 1] rfl)
  · have h := ifn h c1
    refine lv_iload_n hx hb dX8_conflict_5 rfl (lv_at hl 0 rfl) ?_
    refine lv_iconst (v := 2) hx hb dX8_conflict_6 (by decide) ?_
    refine lv_icmp_ne (tgt := 14) hx hb dX8_conflict_7 (by decide) (fun c2 => ?_) (fun c2 => ?_)
    · have h := ifn h c2
      refine lv_iconst (v := 0) hx hb dX8_conflict_14 (by decide) ?_
      exact F15 x0 x1 0 h ls (lv_sub (l' := [(0, .int x0), (1, .int x1)]) hl [0, 1] rfl)
    · have h := ifp h c2
      exact F10 x0 x1 h ls (lv_sub (l' := [(0, .int x0), (1, .int x1)]) hl [0, 1] rfl)
set_option maxHeartbeats 8000000 in
set_option maxRecDepth 100000 in
theorem qX4_staysEarlier (l : Launch) (D : va_G) (cI cM : ClassId) (a_g a_g_kinds a_g_positions : Nat) (g_count : Int32) (g_kept : Int32) (g_kinds : Nat → Int32) (g_positions : Nat → Int32) (x1 : Int32) (x2 : Int32) (x3 : Int32) (r : Int32) (h : fX4_staysEarlier g_positions x1 x2 x3 = some r) : PM l yX4_staysEarlier wsX4_staysEarlier rmX4_staysEarlier D cI cM [.ref a_g, .int x1, .int x2, .int x3] (W_g cI cM a_g a_g_kinds a_g_positions g_count g_kept g_kinds g_positions) r := by
  refine PM.of (cc := cX4_staysEarlier) (maxL := 4) (ret := (some .boolean)) (by decide) rfl (Nat.le_of_ble_eq_true rfl) ?_
  intro p e s m below meth c ls hx hb hr hml hown hts hlk hP hKK hl
  have hown : s.vm.findClass RX4 = some m.cls := hown
  have hl : lv_has ls 4 [(0, .ref a_g), (1, .int x1), (2, .int x2), (3, .int x3)] := hl
  generalize hav : ([.ref a_g, .int x1, .int x2, .int x3] : List Value) = av at hts ⊢
  have SS : CallFix p m c cX4_staysEarlier 4 s av.toArray wsX4_staysEarlier RX4 := ⟨hx, hb, hml, hown, hts⟩
  have hinX4 : ∀ w ∈ u_ws RX4 TX4 4, w ∈ wsX4_staysEarlier := by decide +kernel
  have lk15 := hts (.fieldLink RX4 15 "SignatureChanger$Hoisting" "positions" "[I") (List.mem_of_getElem? (i := 1) rfl)
  have cw63 : va_CN rmX4_staysEarlier s av.toArray RX4 63 yX8_contains RX8 cX8_contains 2 (some .boolean) wsX8_contains rmX8_contains 0 0 2 ∧ (Cond.static yX8_contains).before av.toArray s = true ∧ True := ⟨va_cnB 2 hts gX4_staysEarlier_X8_contains_n63 rfl rfl rfl (hKK.2.at 22 rfl) (hts (.initialized RX8) (List.mem_of_getElem? (i := 3) rfl)) (by decide +kernel) ⟨Nat.le_of_ble_eq_true rfl, Nat.le_of_ble_eq_true rfl⟩, hts (.static yX8_contains) (List.mem_of_getElem? (i := 2) rfl), trivial⟩
  unfold fX4_staysEarlier at h
  refine lv_iload_n hx hb dX4_staysEarlier_0 rfl (lv_at hl 3 rfl) ?_
  refine lv_iload_n hx hb dX4_staysEarlier_1 rfl (lv_at hl 1 rfl) ?_
  obtain ⟨v1, ev1, h⟩ := bn_some h
  refine kSN (As := [.int x3, .int x1]) (rest := []) SS hKK (qX8_contains l D cI cM x3 x1 v1 ev1) cw63 va_P_nil rfl hl.1 rfl (Nat.le_of_ble_eq_true rfl) dX4_staysEarlier_2 ⟨Nat.zero_le _, Nat.zero_le _⟩ ?_
  refine lv_if_eq (tgt := 10) hx hb dX4_staysEarlier_5 (by decide) (fun c2 => ?_) (fun c2 => ?_)
  · have h := ifp h c2
    refine lv_iload_n hx hb dX4_staysEarlier_10 rfl (lv_at hl 3 rfl) ?_
    refine lv_iload_n hx hb dX4_staysEarlier_11 rfl (lv_at hl 2 rfl) ?_
    obtain ⟨v3, ev3, h⟩ := bn_some h
    refine kSN (As := [.int x3, .int x2]) (rest := []) SS hKK (qX8_contains l D cI cM x3 x2 v3 ev3) cw63 va_P_nil rfl hl.1 rfl (Nat.le_of_ble_eq_true rfl) dX4_staysEarlier_12 ⟨Nat.zero_le _, Nat.zero_le _⟩ ?_
    refine lv_if_ne (tgt := 37) hx hb dX4_staysEarlier_15 (by decide) (fun c4 => ?_) (fun c4 => ?_)
    · have h := ifn h c4
      refine lv_iconst (v := 0) hx hb dX4_staysEarlier_37 (by decide) ?_
      exact kRetZ hx hb hr hlk rfl (Option.some.inj h) dX4_staysEarlier_38
    · have h := ifp h c4
      refine lv_aload_n hx hb dX4_staysEarlier_18 rfl (lv_at hl 0 rfl) ?_
      refine va_get (D := D) (ci := 4) (v := .ref a_g_positions) (C := RX4) (T := TX4) (N := 4) hx hb hts hinX4 hown hKK.1 hP 0 rfl rfl 3 (by decide) lk15 (fun _ h9 => h9) rfl dX4_staysEarlier_19 ?_
      refine lv_iload_n hx hb dX4_staysEarlier_22 rfl (lv_at hl 1 rfl) ?_
      obtain ⟨v5, iv5, ev5, h⟩ := rd_some h
      refine kAld hx hb hKK hP 2 rfl iv5 ev5 dX4_staysEarlier_23 ?_
      refine lv_aload_n hx hb dX4_staysEarlier_24 rfl (lv_at hl 0 rfl) ?_
      refine va_get (D := D) (ci := 4) (v := .ref a_g_positions) (C := RX4) (T := TX4) (N := 4) hx hb hts hinX4 hown hKK.1 hP 0 rfl rfl 3 (by decide) lk15 (fun _ h9 => h9) rfl dX4_staysEarlier_25 ?_
      refine lv_iload_n hx hb dX4_staysEarlier_28 rfl (lv_at hl 2 rfl) ?_
      obtain ⟨v6, iv6, ev6, h⟩ := rd_some h
      refine kAld hx hb hKK hP 2 rfl iv6 ev6 dX4_staysEarlier_29 ?_
      refine lv_icmp_ge (tgt := 37) hx hb dX4_staysEarlier_30 (by decide) (fun c7 => ?_) (fun c7 => ?_)
      · have h := ifp h c7
        refine lv_iconst (v := 0) hx hb dX4_staysEarlier_37 (by decide) ?_
        exact kRetZ hx hb hr hlk rfl (Option.some.inj h) dX4_staysEarlier_38
      · have h := ifn h c7
        refine lv_iconst (v := 1) hx hb dX4_staysEarlier_33 (by decide) ?_
        refine lv_goto (tgt := 38) hx hb dX4_staysEarlier_34 (by decide) ?_
        exact kRetZ hx hb hr hlk rfl (Option.some.inj h) dX4_staysEarlier_38
  · have h := ifn h c2
    refine lv_iconst (v := 1) hx hb dX4_staysEarlier_8 (by decide) ?_
    exact kRetZ hx hb hr hlk rfl (Option.some.inj h) dX4_staysEarlier_9
set_option maxHeartbeats 8000000 in
set_option maxRecDepth 100000 in
theorem qX4_keepsOrder (l : Launch) (D : va_G) (cI cM : ClassId) (a_g a_g_kinds a_g_positions : Nat) (g_count : Int32) (g_kept : Int32) (g_kinds : Nat → Int32) (g_positions : Nat → Int32) (x1 : Int32) (r : Int32) (h : fX4_keepsOrder g_count g_kept g_kinds g_positions x1 = some r) : PM l yX4_keepsOrder wsX4_keepsOrder rmX4_keepsOrder D cI cM [.ref a_g, .int x1] (W_g cI cM a_g a_g_kinds a_g_positions g_count g_kept g_kinds g_positions) r := by
  refine PM.of (cc := cX4_keepsOrder) (maxL := 7) (ret := (some .boolean)) (by decide) rfl (Nat.le_of_ble_eq_true rfl) ?_
  intro p e s m below meth c ls hx hb hr hml hown hts hlk hP hKK hl
  have hown : s.vm.findClass RX4 = some m.cls := hown
  have hl : lv_has ls 7 [(0, .ref a_g), (1, .int x1)] := hl
  generalize hav : ([.ref a_g, .int x1] : List Value) = av at hts ⊢
  have SS : CallFix p m c cX4_keepsOrder 7 s av.toArray wsX4_keepsOrder RX4 := ⟨hx, hb, hml, hown, hts⟩
  have hinX4 : ∀ w ∈ u_ws RX4 TX4 4, w ∈ wsX4_keepsOrder := by decide +kernel
  have lk9 := hts (.fieldLink RX4 9 "SignatureChanger$Hoisting" "kinds" "[I") (List.mem_of_getElem? (i := 3) rfl)
  have lk26 := hts (.fieldLink RX4 26 "SignatureChanger$Hoisting" "kept" "I") (List.mem_of_getElem? (i := 1) rfl)
  have lk47 := hts (.fieldLink RX4 47 "SignatureChanger$Hoisting" "count" "I") (List.mem_of_getElem? (i := 2) rfl)
  have cw63 : va_CN rmX4_keepsOrder s av.toArray RX4 63 yX8_contains RX8 cX8_contains 2 (some .boolean) wsX8_contains rmX8_contains 0 0 2 ∧ (Cond.static yX8_contains).before av.toArray s = true ∧ True := ⟨va_cnB 2 hts gX4_keepsOrder_X8_contains_n63 rfl rfl rfl (hKK.2.at 22 rfl) (hts (.initialized RX8) (List.mem_of_getElem? (i := 5) rfl)) (by decide +kernel) ⟨Nat.le_of_ble_eq_true rfl, Nat.le_of_ble_eq_true rfl⟩, hts (.static yX8_contains) (List.mem_of_getElem? (i := 4) rfl), trivial⟩
  have cw67 : va_CN rmX4_keepsOrder s av.toArray RX4 67 yX8_conflict RX8 cX8_conflict 4 (some .boolean) wsX8_conflict rmX8_conflict 0 0 2 ∧ (Cond.static yX8_conflict).before av.toArray s = true ∧ True := ⟨va_cnB 2 hts gX4_keepsOrder_X8_conflict_n67 rfl rfl rfl (hKK.2.at 23 rfl) (hts (.initialized RX8) (List.mem_of_getElem? (i := 5) rfl)) (by decide +kernel) ⟨Nat.le_of_ble_eq_true rfl, Nat.le_of_ble_eq_true rfl⟩, hts (.static yX8_conflict) (List.mem_of_getElem? (i := 7) rfl), trivial⟩
  have cw70 : CallW rmX4_keepsOrder s av.toArray RX4 RX4 70 yX4_staysEarlier cX4_staysEarlier 4 (some .boolean) wsX4_staysEarlier rmX4_staysEarlier 0 0 3 := cwV 3 hts gX4_keepsOrder_X4_staysEarlier rfl rfl rfl (by decide +kernel) ⟨Nat.le_of_ble_eq_true rfl, Nat.le_of_ble_eq_true rfl⟩
  have F79 : ∀ (k9 : Int32 → Int32 → Int32 → Option (Int32)) (k20 : Int32 → Int32 → Int32 → Int32 → Option (Int32)) (hk9 : ∀ (u1 : Int32) (u2 : Int32) (u3 : Int32), k9 u1 u2 u3 = some r → ∀ ls : Array Slot, lv_has ls 7 [(0, .ref a_g), (1, .int u1), (2, .int u2), (3, .int u3)] → WP p l e rmX4_keepsOrder s m av below meth c r 9 ls []) (hk20 : ∀ (u1 : Int32) (u2 : Int32) (u3 : Int32) (u4 : Int32), k20 u1 u2 u3 u4 = some r → ∀ ls : Array Slot, lv_has ls 7 [(0, .ref a_g), (1, .int u1), (2, .int u2), (3, .int u3), (4, .int u4)] → WP p l e rmX4_keepsOrder s m av below meth c r 20 ls []), ∀ (y1 : Int32) (y2 : Int32) (y3 : Int32) (y4 : Int32) (s0 : Int32), jX4_keepsOrder_79 g_count g_kept g_kinds g_positions k9 k20 y1 y2 y3 y4 s0 = some r → ∀ ls : Array Slot, lv_has ls 7 [(0, .ref a_g), (1, .int y1), (2, .int y2), (3, .int y3), (4, .int y4)] → WP p l e rmX4_keepsOrder s m av below meth c r 79 ls [.int s0] := by
    intro k9 k20 hk9 hk20
    intro y1 y2 y3 y4 s0 h ls hl
    unfold jX4_keepsOrder_79 at h
    refine lv_istore (lv' := [(6, .int s0), (0, .ref a_g), (1, .int y1), (2, .int y2), (3, .int y3), (4, .int y4)]) hx hb dX4_keepsOrder_79 hl (by decide) rfl (fun ls hl => ?_)
    refine lv_iload hx hb dX4_keepsOrder_81 (lv_at hl 0 rfl) ?_
    refine lv_if_eq (tgt := 99) hx hb dX4_keepsOrder_83 (by decide) (fun c1 => ?_) (fun c1 => ?_)
    · have h := ifp h c1
      refine lv_iinc (v := y4 + 1) (lv' := [(4, .int (y4 + 1)), (6, .int s0), (0, .ref a_g), (1, .int y1), (2, .int y2), (3, .int y3)]) hx hb dX4_keepsOrder_99 hl (k := 5) rfl rfl (by decide) rfl (fun ls hl => ?_)
      refine lv_goto (tgt := 20) hx hb dX4_keepsOrder_102 (by decide) ?_
      exact hk20 y1 y2 y3 (y4 + 1) h ls (lv_sub (l' := [(0, .ref a_g), (1, .int y1), (2, .int y2), (3, .int y3), (4, .int (y4 + 1))]) hl [2, 3, 4, 5, 0] rfl)
    · have h := ifn h c1
      refine lv_aload_n hx hb dX4_keepsOrder_86 rfl (lv_at hl 1 rfl) ?_
      refine lv_iload hx hb dX4_keepsOrder_87 (lv_at hl 5 rfl) ?_
      refine lv_iload_n hx hb dX4_keepsOrder_89 rfl (lv_at hl 4 rfl) ?_
      refine lv_iload_n hx hb dX4_keepsOrder_90 rfl (lv_at hl 2 rfl) ?_
      obtain ⟨v2, ev2, h⟩ := bn_some h
      have hs3 : va_P D vwCl (W_g cI cM a_g a_g_kinds a_g_positions g_count g_kept g_kinds g_positions) _ := hP.sub (ws' := W_g cI cM a_g a_g_kinds a_g_positions g_count g_kept g_kinds g_positions) [0, 1, 2] rfl
      refine kV (As := [.int y4, .int y3, .int y1]) (rest := []) SS hKK (qX4_staysEarlier l D cI cM a_g a_g_kinds a_g_positions g_count g_kept g_kinds g_positions y4 y3 y1 v2 ev2) cw70 hs3 0 4 rfl rfl rfl hl.1 rfl (Nat.le_of_ble_eq_true rfl) dX4_keepsOrder_91 ⟨Nat.zero_le _, Nat.zero_le _⟩ ?_
      refine lv_if_ne (tgt := 99) hx hb dX4_keepsOrder_94 (by decide) (fun c4 => ?_) (fun c4 => ?_)
      · have h := ifn h c4
        refine lv_iinc (v := y4 + 1) (lv' := [(4, .int (y4 + 1)), (6, .int s0), (0, .ref a_g), (1, .int y1), (2, .int y2), (3, .int y3)]) hx hb dX4_keepsOrder_99 hl (k := 5) rfl rfl (by decide) rfl (fun ls hl => ?_)
        refine lv_goto (tgt := 20) hx hb dX4_keepsOrder_102 (by decide) ?_
        exact hk20 y1 y2 y3 (y4 + 1) h ls (lv_sub (l' := [(0, .ref a_g), (1, .int y1), (2, .int y2), (3, .int y3), (4, .int (y4 + 1))]) hl [2, 3, 4, 5, 0] rfl)
      · have h := ifp h c4
        refine lv_iconst (v := 0) hx hb dX4_keepsOrder_97 (by decide) ?_
        exact kRetZ hx hb hr hlk rfl (Option.some.inj h) dX4_keepsOrder_98
  have F78 : ∀ (k9 : Int32 → Int32 → Int32 → Option (Int32)) (k20 : Int32 → Int32 → Int32 → Int32 → Option (Int32)) (hk9 : ∀ (u1 : Int32) (u2 : Int32) (u3 : Int32), k9 u1 u2 u3 = some r → ∀ ls : Array Slot, lv_has ls 7 [(0, .ref a_g), (1, .int u1), (2, .int u2), (3, .int u3)] → WP p l e rmX4_keepsOrder s m av below meth c r 9 ls []) (hk20 : ∀ (u1 : Int32) (u2 : Int32) (u3 : Int32) (u4 : Int32), k20 u1 u2 u3 u4 = some r → ∀ ls : Array Slot, lv_has ls 7 [(0, .ref a_g), (1, .int u1), (2, .int u2), (3, .int u3), (4, .int u4)] → WP p l e rmX4_keepsOrder s m av below meth c r 20 ls []), ∀ (y1 : Int32) (y2 : Int32) (y3 : Int32) (y4 : Int32), jX4_keepsOrder_78 g_count g_kept g_kinds g_positions k9 k20 y1 y2 y3 y4 = some r → ∀ ls : Array Slot, lv_has ls 7 [(0, .ref a_g), (1, .int y1), (2, .int y2), (3, .int y3), (4, .int y4)] → WP p l e rmX4_keepsOrder s m av below meth c r 78 ls [] := by
    intro k9 k20 hk9 hk20
    intro y1 y2 y3 y4 h ls hl
    unfold jX4_keepsOrder_78 at h
    refine lv_iconst (v := 0) hx hb dX4_keepsOrder_78 (by decide) ?_
    exact F79 k9 k20 hk9 hk20 y1 y2 y3 y4 0 h ls (lv_sub (l' := [(0, .ref a_g), (1, .int y1), (2, .int y2), (3, .int y3), (4, .int y4)]) hl [0, 1, 2, 3, 4] rfl)
  have F48 : ∀ (k9 : Int32 → Int32 → Int32 → Option (Int32)) (k20 : Int32 → Int32 → Int32 → Int32 → Option (Int32)) (hk9 : ∀ (u1 : Int32) (u2 : Int32) (u3 : Int32), k9 u1 u2 u3 = some r → ∀ ls : Array Slot, lv_has ls 7 [(0, .ref a_g), (1, .int u1), (2, .int u2), (3, .int u3)] → WP p l e rmX4_keepsOrder s m av below meth c r 9 ls []) (hk20 : ∀ (u1 : Int32) (u2 : Int32) (u3 : Int32) (u4 : Int32), k20 u1 u2 u3 u4 = some r → ∀ ls : Array Slot, lv_has ls 7 [(0, .ref a_g), (1, .int u1), (2, .int u2), (3, .int u3), (4, .int u4)] → WP p l e rmX4_keepsOrder s m av below meth c r 20 ls []), ∀ (y1 : Int32) (y2 : Int32) (y3 : Int32) (y4 : Int32) (s0 : Int32), jX4_keepsOrder_48 g_count g_kept g_kinds g_positions k9 k20 y1 y2 y3 y4 s0 = some r → ∀ ls : Array Slot, lv_has ls 7 [(0, .ref a_g), (1, .int y1), (2, .int y2), (3, .int y3), (4, .int y4)] → WP p l e rmX4_keepsOrder s m av below meth c r 48 ls [.int s0] := by
    intro k9 k20 hk9 hk20
    intro y1 y2 y3 y4 s0 h ls hl
    unfold jX4_keepsOrder_48 at h
    refine lv_istore (lv' := [(5, .int s0), (0, .ref a_g), (1, .int y1), (2, .int y2), (3, .int y3), (4, .int y4)]) hx hb dX4_keepsOrder_48 hl (by decide) rfl (fun ls hl => ?_)
    refine lv_iload hx hb dX4_keepsOrder_50 (lv_at hl 0 rfl) ?_
    refine lv_if_eq (tgt := 78) hx hb dX4_keepsOrder_52 (by decide) (fun c1 => ?_) (fun c1 => ?_)
    · have h := ifp h c1
      exact F78 k9 k20 hk9 hk20 y1 y2 y3 y4 h ls (lv_sub (l' := [(0, .ref a_g), (1, .int y1), (2, .int y2), (3, .int y3), (4, .int y4)]) hl [1, 2, 3, 4, 5] rfl)
    · have h := ifn h c1
      refine lv_aload_n hx hb dX4_keepsOrder_55 rfl (lv_at hl 1 rfl) ?_
      refine va_get (D := D) (ci := 4) (v := .ref a_g_kinds) (C := RX4) (T := TX4) (N := 4) hx hb hts hinX4 hown hKK.1 hP 0 rfl rfl 2 (by decide) lk9 (fun _ h9 => h9) rfl dX4_keepsOrder_56 ?_
      refine lv_iload hx hb dX4_keepsOrder_59 (lv_at hl 5 rfl) ?_
      obtain ⟨v2, iv2, ev2, h⟩ := rd_some h
      refine kAld hx hb hKK hP 1 rfl iv2 ev2 dX4_keepsOrder_61 ?_
      refine lv_aload_n hx hb dX4_keepsOrder_62 rfl (lv_at hl 1 rfl) ?_
      refine va_get (D := D) (ci := 4) (v := .ref a_g_kinds) (C := RX4) (T := TX4) (N := 4) hx hb hts hinX4 hown hKK.1 hP 0 rfl rfl 2 (by decide) lk9 (fun _ h9 => h9) rfl dX4_keepsOrder_63 ?_
      refine lv_iload_n hx hb dX4_keepsOrder_66 rfl (lv_at hl 4 rfl) ?_
      obtain ⟨v3, iv3, ev3, h⟩ := rd_some h
      refine kAld hx hb hKK hP 1 rfl iv3 ev3 dX4_keepsOrder_67 ?_
      obtain ⟨v4, ev4, h⟩ := bn_some h
      refine kSN (As := [.int v2, .int v3]) (rest := []) SS hKK (qX8_conflict l D cI cM v2 v3 v4 ev4) cw67 va_P_nil rfl hl.1 rfl (Nat.le_of_ble_eq_true rfl) dX4_keepsOrder_68 ⟨Nat.zero_le _, Nat.zero_le _⟩ ?_
      refine lv_if_eq (tgt := 78) hx hb dX4_keepsOrder_71 (by decide) (fun c5 => ?_) (fun c5 => ?_)
      · have h := ifp h c5
        exact F78 k9 k20 hk9 hk20 y1 y2 y3 y4 h ls (lv_sub (l' := [(0, .ref a_g), (1, .int y1), (2, .int y2), (3, .int y3), (4, .int y4)]) hl [1, 2, 3, 4, 5] rfl)
      · have h := ifn h c5
        refine lv_iconst (v := 1) hx hb dX4_keepsOrder_74 (by decide) ?_
        refine lv_goto (tgt := 79) hx hb dX4_keepsOrder_75 (by decide) ?_
        exact F79 k9 k20 hk9 hk20 y1 y2 y3 y4 1 h ls (lv_sub (l' := [(0, .ref a_g), (1, .int y1), (2, .int y2), (3, .int y3), (4, .int y4)]) hl [1, 2, 3, 4, 5] rfl)
  have F47 : ∀ (k9 : Int32 → Int32 → Int32 → Option (Int32)) (k20 : Int32 → Int32 → Int32 → Int32 → Option (Int32)) (hk9 : ∀ (u1 : Int32) (u2 : Int32) (u3 : Int32), k9 u1 u2 u3 = some r → ∀ ls : Array Slot, lv_has ls 7 [(0, .ref a_g), (1, .int u1), (2, .int u2), (3, .int u3)] → WP p l e rmX4_keepsOrder s m av below meth c r 9 ls []) (hk20 : ∀ (u1 : Int32) (u2 : Int32) (u3 : Int32) (u4 : Int32), k20 u1 u2 u3 u4 = some r → ∀ ls : Array Slot, lv_has ls 7 [(0, .ref a_g), (1, .int u1), (2, .int u2), (3, .int u3), (4, .int u4)] → WP p l e rmX4_keepsOrder s m av below meth c r 20 ls []), ∀ (y1 : Int32) (y2 : Int32) (y3 : Int32) (y4 : Int32), jX4_keepsOrder_47 g_count g_kept g_kinds g_positions k9 k20 y1 y2 y3 y4 = some r → ∀ ls : Array Slot, lv_has ls 7 [(0, .ref a_g), (1, .int y1), (2, .int y2), (3, .int y3), (4, .int y4)] → WP p l e rmX4_keepsOrder s m av below meth c r 47 ls [] := by
    intro k9 k20 hk9 hk20
    intro y1 y2 y3 y4 h ls hl
    unfold jX4_keepsOrder_47 at h
    refine lv_iconst (v := 0) hx hb dX4_keepsOrder_47 (by decide) ?_
    exact F48 k9 k20 hk9 hk20 y1 y2 y3 y4 0 h ls (lv_sub (l' := [(0, .ref a_g), (1, .int y1), (2, .int y2), (3, .int y3), (4, .int y4)]) hl [0, 1, 2, 3, 4] rfl)
  have F20 : ∀ (k9 : Int32 → Int32 → Int32 → Option (Int32)) (hk9 : ∀ (u1 : Int32) (u2 : Int32) (u3 : Int32), k9 u1 u2 u3 = some r → ∀ ls : Array Slot, lv_has ls 7 [(0, .ref a_g), (1, .int u1), (2, .int u2), (3, .int u3)] → WP p l e rmX4_keepsOrder s m av below meth c r 9 ls []), ∀ (n : Nat) (y1 : Int32) (y2 : Int32) (y3 : Int32) (y4 : Int32), lX4_keepsOrder_20 g_count g_kept g_kinds g_positions k9 n y1 y2 y3 y4 = some r → ∀ ls : Array Slot, lv_has ls 7 [(0, .ref a_g), (1, .int y1), (2, .int y2), (3, .int y3), (4, .int y4)] → WP p l e rmX4_keepsOrder s m av below meth c r 20 ls [] := by
    intro k9 hk9
    intro n
    induction n with
    | zero => intro y1 y2 y3 y4 h; exact no_some h
    | succ n ih =>
      intro y1 y2 y3 y4 h ls hl
      rw [lX4_keepsOrder_20_s] at h
      refine lv_iload hx hb dX4_keepsOrder_20 (lv_at hl 4 rfl) ?_
      refine lv_iload_n hx hb dX4_keepsOrder_22 rfl (lv_at hl 3 rfl) ?_
      refine lv_icmp_ge (tgt := 105) hx hb dX4_keepsOrder_23 (by decide) (fun c1 => ?_) (fun c1 => ?_)
      · have h := ifp h c1
        refine lv_iinc (v := y3 + 1) (lv' := [(3, .int (y3 + 1)), (0, .ref a_g), (1, .int y1), (2, .int y2), (4, .int y4)]) hx hb dX4_keepsOrder_105 hl (k := 3) rfl rfl (by decide) rfl (fun ls hl => ?_)
        refine lv_goto (tgt := 9) hx hb dX4_keepsOrder_108 (by decide) ?_
        exact hk9 y1 y2 (y3 + 1) h ls (lv_sub (l' := [(0, .ref a_g), (1, .int y1), (2, .int y2), (3, .int (y3 + 1))]) hl [1, 2, 3, 0] rfl)
      · have h := ifn h c1
        refine lv_iload_n hx hb dX4_keepsOrder_26 rfl (lv_at hl 2 rfl) ?_
        refine lv_iload hx hb dX4_keepsOrder_27 (lv_at hl 4 rfl) ?_
        obtain ⟨v2, ev2, h⟩ := bn_some h
        refine kSN (As := [.int y2, .int y4]) (rest := []) SS hKK (qX8_contains l D cI cM y2 y4 v2 ev2) cw63 va_P_nil rfl hl.1 rfl (Nat.le_of_ble_eq_true rfl) dX4_keepsOrder_29 ⟨Nat.zero_le _, Nat.zero_le _⟩ ?_
        refine lv_if_eq (tgt := 47) hx hb dX4_keepsOrder_32 (by decide) (fun c3 => ?_) (fun c3 => ?_)
        · have h := ifp h c3
          exact F47 k9 (fun u1 u2 u3 u4 => lX4_keepsOrder_20 g_count g_kept g_kinds g_positions k9 n u1 u2 u3 u4) hk9 (fun u1 u2 u3 u4 h ls hl => ih u1 u2 u3 u4 h ls hl) y1 y2 y3 y4 h ls (lv_sub (l' := [(0, .ref a_g), (1, .int y1), (2, .int y2), (3, .int y3), (4, .int y4)]) hl [0, 1, 2, 3, 4] rfl)
        · have h := ifn h c3
          refine lv_iload_n hx hb dX4_keepsOrder_35 rfl (lv_at hl 2 rfl) ?_
          refine lv_iload_n hx hb dX4_keepsOrder_36 rfl (lv_at hl 3 rfl) ?_
          obtain ⟨v4, ev4, h⟩ := bn_some h
          refine kSN (As := [.int y2, .int y3]) (rest := []) SS hKK (qX8_contains l D cI cM y2 y3 v4 ev4) cw63 va_P_nil rfl hl.1 rfl (Nat.le_of_ble_eq_true rfl) dX4_keepsOrder_37 ⟨Nat.zero_le _, Nat.zero_le _⟩ ?_
          refine lv_if_eq (tgt := 47) hx hb dX4_keepsOrder_40 (by decide) (fun c5 => ?_) (fun c5 => ?_)
          · have h := ifp h c5
            exact F47 k9 (fun u1 u2 u3 u4 => lX4_keepsOrder_20 g_count g_kept g_kinds g_positions k9 n u1 u2 u3 u4) hk9 (fun u1 u2 u3 u4 h ls hl => ih u1 u2 u3 u4 h ls hl) y1 y2 y3 y4 h ls (lv_sub (l' := [(0, .ref a_g), (1, .int y1), (2, .int y2), (3, .int y3), (4, .int y4)]) hl [0, 1, 2, 3, 4] rfl)
          · have h := ifn h c5
            refine lv_iconst (v := 1) hx hb dX4_keepsOrder_43 (by decide) ?_
            refine lv_goto (tgt := 48) hx hb dX4_keepsOrder_44 (by decide) ?_
            exact F48 k9 (fun u1 u2 u3 u4 => lX4_keepsOrder_20 g_count g_kept g_kinds g_positions k9 n u1 u2 u3 u4) hk9 (fun u1 u2 u3 u4 h ls hl => ih u1 u2 u3 u4 h ls hl) y1 y2 y3 y4 1 h ls (lv_sub (l' := [(0, .ref a_g), (1, .int y1), (2, .int y2), (3, .int y3), (4, .int y4)]) hl [0, 1, 2, 3, 4] rfl)
  have F9 : ∀ (n : Nat) (y1 : Int32) (y2 : Int32) (y3 : Int32), lX4_keepsOrder_9 g_count g_kept g_kinds g_positions n y1 y2 y3 = some r → ∀ ls : Array Slot, lv_has ls 7 [(0, .ref a_g), (1, .int y1), (2, .int y2), (3, .int y3)] → WP p l e rmX4_keepsOrder s m av below meth c r 9 ls [] := by
    intro n
    induction n with
    | zero => intro y1 y2 y3 h; exact no_some h
    | succ n ih =>
      intro y1 y2 y3 h ls hl
      rw [lX4_keepsOrder_9_s] at h
      refine lv_iload_n hx hb dX4_keepsOrder_9 rfl (lv_at hl 3 rfl) ?_
      refine lv_aload_n hx hb dX4_keepsOrder_10 rfl (lv_at hl 0 rfl) ?_
      refine va_get (D := D) (ci := 4) (v := .int g_count) (C := RX4) (T := TX4) (N := 4) hx hb hts hinX4 hown hKK.1 hP 0 rfl rfl 0 (by decide) lk47 (fun _ h9 => h9) rfl dX4_keepsOrder_11 ?_
      refine lv_icmp_ge (tgt := 111) hx hb dX4_keepsOrder_14 (by decide) (fun c1 => ?_) (fun c1 => ?_)
      · have h := ifp h c1
        refine lv_iconst (v := 1) hx hb dX4_keepsOrder_111 (by decide) ?_
        exact kRetZ hx hb hr hlk rfl (Option.some.inj h) dX4_keepsOrder_112
      · have h := ifn h c1
        refine lv_iconst (v := 0) hx hb dX4_keepsOrder_17 (by decide) ?_
        refine lv_istore (lv' := [(4, .int 0), (0, .ref a_g), (1, .int y1), (2, .int y2), (3, .int y3)]) hx hb dX4_keepsOrder_18 hl (by decide) rfl (fun ls hl => ?_)
        exact F20 (fun u1 u2 u3 => lX4_keepsOrder_9 g_count g_kept g_kinds g_positions n u1 u2 u3) (fun u1 u2 u3 h ls hl => ih u1 u2 u3 h ls hl) 5000 y1 y2 y3 0 h ls (lv_sub (l' := [(0, .ref a_g), (1, .int y1), (2, .int y2), (3, .int y3), (4, .int 0)]) hl [1, 2, 3, 4, 0] rfl)
  unfold fX4_keepsOrder at h
  refine lv_aload_n hx hb dX4_keepsOrder_0 rfl (lv_at hl 0 rfl) ?_
  refine va_get (D := D) (ci := 4) (v := .int g_kept) (C := RX4) (T := TX4) (N := 4) hx hb hts hinX4 hown hKK.1 hP 0 rfl rfl 1 (by decide) lk26 (fun _ h9 => h9) rfl dX4_keepsOrder_1 ?_
  refine lv_iload_n hx hb dX4_keepsOrder_4 rfl (lv_at hl 1 rfl) ?_
  refine lv_ior hx hb dX4_keepsOrder_5 ?_
  refine lv_istore_n (lv' := [(2, .int (g_kept ||| x1)), (0, .ref a_g), (1, .int x1)]) hx hb dX4_keepsOrder_6 rfl hl (by decide) rfl (fun ls hl => ?_)
  refine lv_iconst (v := 1) hx hb dX4_keepsOrder_7 (by decide) ?_
  refine lv_istore_n (lv' := [(3, .int 1), (2, .int (g_kept ||| x1)), (0, .ref a_g), (1, .int x1)]) hx hb dX4_keepsOrder_8 rfl hl (by decide) rfl (fun ls hl => ?_)
  exact F9 5000 x1 (g_kept ||| x1) 1 h ls (lv_sub (l' := [(0, .ref a_g), (1, .int x1), (2, .int (g_kept ||| x1)), (3, .int 1)]) hl [2, 3, 1, 0] rfl)
set_option maxHeartbeats 8000000 in
set_option maxRecDepth 100000 in
theorem qJ6_bitCount_0f7a4 (l : Launch) (D : va_G) (cI cM : ClassId) (x0 : Int32) (r : Int32) (h : fJ6_bitCount_0f7a4 x0 = some r) : PM l yJ6_bitCount_0f7a4 wsJ6_bitCount_0f7a4 rmJ6_bitCount_0f7a4 D cI cM [.int x0] ([]) r := by
  refine PM.of (cc := cJ6_bitCount_0f7a4) (maxL := 1) (ret := (some .int)) (by decide) rfl (Nat.le_of_ble_eq_true rfl) ?_
  intro p e s m below meth c ls hx hb hr hml hown hts hlk hP hKK hl
  have hown : s.vm.findClass RJ6 = some m.cls := hown
  have hl : lv_has ls 1 [(0, .int x0)] := hl
  generalize hav : ([.int x0] : List Value) = av at hts ⊢
  have SS : CallFix p m c cJ6_bitCount_0f7a4 1 s av.toArray wsJ6_bitCount_0f7a4 RJ6 := ⟨hx, hb, hml, hown, hts⟩
  have ld265 := hts (.constant RJ6 265 (1431655765)) (List.mem_of_getElem? (i := 1) rfl)
  have ld266 := hts (.constant RJ6 266 (858993459)) (List.mem_of_getElem? (i := 2) rfl)
  have ld267 := hts (.constant RJ6 267 (252645135)) (List.mem_of_getElem? (i := 3) rfl)
  unfold fJ6_bitCount_0f7a4 at h
  refine lv_iload_n hx hb dJ6_bitCount_0f7a4_0 rfl (lv_at hl 0 rfl) ?_
  refine lv_iload_n hx hb dJ6_bitCount_0f7a4_1 rfl (lv_at hl 0 rfl) ?_
  refine lv_iconst (v := 1) hx hb dJ6_bitCount_0f7a4_2 (by decide) ?_
  refine lv_iushr (v := (x0.toUInt32 >>> ((1 : Int32).toUInt32 &&& Int32.toUInt32 31)).toInt32) hx hb dJ6_bitCount_0f7a4_3 rfl ?_
  refine lv_ldcw hx hb hown ld265 dJ6_bitCount_0f7a4_4 ?_
  refine lv_iand hx hb dJ6_bitCount_0f7a4_7 ?_
  refine lv_isub hx hb dJ6_bitCount_0f7a4_8 ?_
  obtain ⟨v1, ev1, h⟩ := bn_some h
  refine kNm (Option.some.inj ev1) ?_
  refine lv_istore_n (lv' := [(0, .int v1)]) hx hb dJ6_bitCount_0f7a4_9 rfl hl (by decide) rfl (fun ls hl => ?_)
  refine lv_iload_n hx hb dJ6_bitCount_0f7a4_10 rfl (lv_at hl 0 rfl) ?_
  refine lv_ldcw hx hb hown ld266 dJ6_bitCount_0f7a4_11 ?_
  refine lv_iand hx hb dJ6_bitCount_0f7a4_14 ?_
  refine lv_iload_n hx hb dJ6_bitCount_0f7a4_15 rfl (lv_at hl 0 rfl) ?_
  refine lv_iconst (v := 2) hx hb dJ6_bitCount_0f7a4_16 (by decide) ?_
  refine lv_iushr (v := (v1.toUInt32 >>> ((2 : Int32).toUInt32 &&& Int32.toUInt32 31)).toInt32) hx hb dJ6_bitCount_0f7a4_17 rfl ?_
  refine lv_ldcw hx hb hown ld266 dJ6_bitCount_0f7a4_18 ?_
  refine lv_iand hx hb dJ6_bitCount_0f7a4_21 ?_
  refine lv_iadd hx hb dJ6_bitCount_0f7a4_22 ?_
  obtain ⟨v2, ev2, h⟩ := bn_some h
  refine kNm (Option.some.inj ev2) ?_
  refine lv_istore_n (lv' := [(0, .int v2)]) hx hb dJ6_bitCount_0f7a4_23 rfl hl (by decide) rfl (fun ls hl => ?_)
  refine lv_iload_n hx hb dJ6_bitCount_0f7a4_24 rfl (lv_at hl 0 rfl) ?_
  refine lv_iload_n hx hb dJ6_bitCount_0f7a4_25 rfl (lv_at hl 0 rfl) ?_
  refine lv_iconst (v := 4) hx hb dJ6_bitCount_0f7a4_26 (by decide) ?_
  refine lv_iushr (v := (v2.toUInt32 >>> ((4 : Int32).toUInt32 &&& Int32.toUInt32 31)).toInt32) hx hb dJ6_bitCount_0f7a4_27 rfl ?_
  refine lv_iadd hx hb dJ6_bitCount_0f7a4_28 ?_
  refine lv_ldcw hx hb hown ld267 dJ6_bitCount_0f7a4_29 ?_
  refine lv_iand hx hb dJ6_bitCount_0f7a4_32 ?_
  obtain ⟨v3, ev3, h⟩ := bn_some h
  refine kNm (Option.some.inj ev3) ?_
  refine lv_istore_n (lv' := [(0, .int v3)]) hx hb dJ6_bitCount_0f7a4_33 rfl hl (by decide) rfl (fun ls hl => ?_)
  refine lv_iload_n hx hb dJ6_bitCount_0f7a4_34 rfl (lv_at hl 0 rfl) ?_
  refine lv_iload_n hx hb dJ6_bitCount_0f7a4_35 rfl (lv_at hl 0 rfl) ?_
  refine lv_bipush (v := 8) hx hb dJ6_bitCount_0f7a4_36 (by decide) ?_
  refine lv_iushr (v := (v3.toUInt32 >>> ((8 : Int32).toUInt32 &&& Int32.toUInt32 31)).toInt32) hx hb dJ6_bitCount_0f7a4_38 rfl ?_
  refine lv_iadd hx hb dJ6_bitCount_0f7a4_39 ?_
  obtain ⟨v4, ev4, h⟩ := bn_some h
  refine kNm (Option.some.inj ev4) ?_
  refine lv_istore_n (lv' := [(0, .int v4)]) hx hb dJ6_bitCount_0f7a4_40 rfl hl (by decide) rfl (fun ls hl => ?_)
  refine lv_iload_n hx hb dJ6_bitCount_0f7a4_41 rfl (lv_at hl 0 rfl) ?_
  refine lv_iload_n hx hb dJ6_bitCount_0f7a4_42 rfl (lv_at hl 0 rfl) ?_
  refine lv_bipush (v := 16) hx hb dJ6_bitCount_0f7a4_43 (by decide) ?_
  refine lv_iushr (v := (v4.toUInt32 >>> ((16 : Int32).toUInt32 &&& Int32.toUInt32 31)).toInt32) hx hb dJ6_bitCount_0f7a4_45 rfl ?_
  refine lv_iadd hx hb dJ6_bitCount_0f7a4_46 ?_
  obtain ⟨v5, ev5, h⟩ := bn_some h
  refine kNm (Option.some.inj ev5) ?_
  refine lv_istore_n (lv' := [(0, .int v5)]) hx hb dJ6_bitCount_0f7a4_47 rfl hl (by decide) rfl (fun ls hl => ?_)
  refine lv_iload_n hx hb dJ6_bitCount_0f7a4_48 rfl (lv_at hl 0 rfl) ?_
  refine lv_bipush (v := 63) hx hb dJ6_bitCount_0f7a4_49 (by decide) ?_
  refine lv_iand hx hb dJ6_bitCount_0f7a4_51 ?_
  exact kRet hx hb hr hlk (Option.some.inj h) dJ6_bitCount_0f7a4_52
set_option maxHeartbeats 8000000 in
set_option maxRecDepth 100000 in
theorem qX4_choose (l : Launch) (D : va_G) (cI cM : ClassId) (a_g a_g_kinds a_g_positions a_k a_k_staticType a_k_dynamicType a_k_target a_k_argumentCounts a_k_temporaryCounts a_k_keys a_k_kinds a_k_values a_k_temporaryKinds a_k_newKinds a_k_newValues a_d a_d_sources a_d_keys a_d_defaults : Nat) (g_count : Int32) (g_kept : Int32) (g_kinds : Nat → Int32) (g_positions : Nat → Int32) (k_count : Int32) (k_frozenSet : Int32) (k_staticType : Nat → Int32) (k_dynamicType : Nat → Int32) (k_target : Nat → Int32) (k_argumentCounts : Nat → Int32) (k_temporaryCounts : Nat → Int32) (k_keys : Nat → Int32) (k_kinds : Nat → Int32) (k_values : Nat → Int32) (k_temporaryKinds : Nat → Int32) (k_newKinds : Nat → Int32) (k_newValues : Nat → Int32) (d_open : Int32) (d_method : Int32) (d_family : Int32) (d_oldCount : Int32) (d_keptSet : Int32) (d_count : Int32) (d_sources : Nat → Int32) (d_keys : Nat → Int32) (d_defaults : Nat → Int32) (d_usedKeys : Int32) (x2 : Int32) (r : Int32) (r_g_count : Int32) (r_g_kept : Int32) (r_g_kinds : Nat → Int32) (r_g_positions : Nat → Int32) (h : fX4_choose g_count g_kept g_kinds g_positions k_argumentCounts k_kinds d_keptSet d_count d_sources x2 = some (r, r_g_count, r_g_kept, r_g_kinds, r_g_positions)) : IM l yX4_choose wsX4_choose rmX4_choose D cI cM [.ref a_g, .ref a_k, .int x2, .ref a_d] (W_g_k_d cI cM a_g a_g_kinds a_g_positions a_k a_k_staticType a_k_dynamicType a_k_target a_k_argumentCounts a_k_temporaryCounts a_k_keys a_k_kinds a_k_values a_k_temporaryKinds a_k_newKinds a_k_newValues a_d a_d_sources a_d_keys a_d_defaults g_count g_kept g_kinds g_positions k_count k_frozenSet k_staticType k_dynamicType k_target k_argumentCounts k_temporaryCounts k_keys k_kinds k_values k_temporaryKinds k_newKinds k_newValues d_open d_method d_family d_oldCount d_keptSet d_count d_sources d_keys d_defaults d_usedKeys) (W_g_k_d cI cM a_g a_g_kinds a_g_positions a_k a_k_staticType a_k_dynamicType a_k_target a_k_argumentCounts a_k_temporaryCounts a_k_keys a_k_kinds a_k_values a_k_temporaryKinds a_k_newKinds a_k_newValues a_d a_d_sources a_d_keys a_d_defaults r_g_count r_g_kept r_g_kinds r_g_positions k_count k_frozenSet k_staticType k_dynamicType k_target k_argumentCounts k_temporaryCounts k_keys k_kinds k_values k_temporaryKinds k_newKinds k_newValues d_open d_method d_family d_oldCount d_keptSet d_count d_sources d_keys d_defaults d_usedKeys) (some (.int r)) := by
  refine IM.of (cc := cX4_choose) (maxL := 10) (ret := (some .int)) (by decide) rfl (Nat.le_of_ble_eq_true rfl) ?_
  intro p e s m below meth c ls hx hb hr hml hown hts hlk hKK hP hD hS hl
  have hown : s.vm.findClass RX4 = some m.cls := hown
  have hl : lv_has ls 10 [(0, .ref a_g), (1, .ref a_k), (2, .int x2), (3, .ref a_d)] := hl
  generalize hav : ([.ref a_g, .ref a_k, .int x2, .ref a_d] : List Value) = av at hts ⊢
  generalize hw1 : W_g_k_d cI cM a_g a_g_kinds a_g_positions a_k a_k_staticType a_k_dynamicType a_k_target a_k_argumentCounts a_k_temporaryCounts a_k_keys a_k_kinds a_k_values a_k_temporaryKinds a_k_newKinds a_k_newValues a_d a_d_sources a_d_keys a_d_defaults r_g_count r_g_kept r_g_kinds r_g_positions k_count k_frozenSet k_staticType k_dynamicType k_target k_argumentCounts k_temporaryCounts k_keys k_kinds k_values k_temporaryKinds k_newKinds k_newValues d_open d_method d_family d_oldCount d_keptSet d_count d_sources d_keys d_defaults d_usedKeys = w1
  generalize hw0 : W_g_k_d cI cM a_g a_g_kinds a_g_positions a_k a_k_staticType a_k_dynamicType a_k_target a_k_argumentCounts a_k_temporaryCounts a_k_keys a_k_kinds a_k_values a_k_temporaryKinds a_k_newKinds a_k_newValues a_d a_d_sources a_d_keys a_d_defaults g_count g_kept g_kinds g_positions k_count k_frozenSet k_staticType k_dynamicType k_target k_argumentCounts k_temporaryCounts k_keys k_kinds k_values k_temporaryKinds k_newKinds k_newValues d_open d_method d_family d_oldCount d_keptSet d_count d_sources d_keys d_defaults d_usedKeys = w0 at hD hS ⊢
  have hP : va_P D vwCl (W_g_k_d cI cM a_g a_g_kinds a_g_positions a_k a_k_staticType a_k_dynamicType a_k_target a_k_argumentCounts a_k_temporaryCounts a_k_keys a_k_kinds a_k_values a_k_temporaryKinds a_k_newKinds a_k_newValues a_d a_d_sources a_d_keys a_d_defaults g_count g_kept g_kinds g_positions k_count k_frozenSet k_staticType k_dynamicType k_target k_argumentCounts k_temporaryCounts k_keys k_kinds k_values k_temporaryKinds k_newKinds k_newValues d_open d_method d_family d_oldCount d_keptSet d_count d_sources d_keys d_defaults d_usedKeys) s.heap := hP
  have hD : va_D (fun q => q ∈ w0.map (·.1)) (W_g_k_d cI cM a_g a_g_kinds a_g_positions a_k a_k_staticType a_k_dynamicType a_k_target a_k_argumentCounts a_k_temporaryCounts a_k_keys a_k_kinds a_k_values a_k_temporaryKinds a_k_newKinds a_k_newValues a_d a_d_sources a_d_keys a_d_defaults g_count g_kept g_kinds g_positions k_count k_frozenSet k_staticType k_dynamicType k_target k_argumentCounts k_temporaryCounts k_keys k_kinds k_values k_temporaryKinds k_newKinds k_newValues d_open d_method d_family d_oldCount d_keptSet d_count d_sources d_keys d_defaults d_usedKeys) := by rw [hw0]; exact hD
  have SS : CallFix p m c cX4_choose 10 s av.toArray wsX4_choose RX4 := ⟨hx, hb, hml, hown, hts⟩
  have hinX4 : ∀ w ∈ u_ws RX4 TX4 4, w ∈ wsX4_choose := by decide +kernel
  have lk26 := hts (.fieldLink RX4 26 "SignatureChanger$Hoisting" "kept" "I") (List.mem_of_getElem? (i := 1) rfl)
  have cw18 : CallW rmX4_choose s av.toArray RX4 RX4 18 yX4_look cX4_look 5 none wsX4_look rmX4_look 0 0 3 := cwV 3 hts gX4_choose_X4_look rfl rfl rfl (by decide +kernel) ⟨Nat.le_of_ble_eq_true rfl, Nat.le_of_ble_eq_true rfl⟩
  have cw22 : CallW rmX4_choose s av.toArray RX4 RX4 22 yX4_ofKind cX4_ofKind 4 (some .int) wsX4_ofKind rmX4_ofKind 0 0 1 := cwV 1 hts gX4_choose_X4_ofKind rfl rfl rfl (by decide +kernel) ⟨Nat.le_of_ble_eq_true rfl, Nat.le_of_ble_eq_true rfl⟩
  have cw30 : va_CN rmX4_choose s av.toArray RX4 30 yX8_bit RX8 cX8_bit 1 (some .int) wsX8_bit rmX8_bit 0 0 1 ∧ (Cond.static yX8_bit).before av.toArray s = true ∧ True := ⟨va_cnB 1 hts gX4_choose_X8_bit_n30 rfl rfl rfl (hKK.2.at 21 rfl) (hts (.initialized RX8) (List.mem_of_getElem? (i := 25) rfl)) (by decide +kernel) ⟨Nat.le_of_ble_eq_true rfl, Nat.le_of_ble_eq_true rfl⟩, hts (.static yX8_bit) (List.mem_of_getElem? (i := 24) rfl), trivial⟩
  have cw33 : CallB rmX4_choose s av.toArray RX4 33 yJ6_bitCount_0f7a4 cJ6_bitCount_0f7a4 1 (some .int) wsJ6_bitCount_0f7a4 rmJ6_bitCount_0f7a4 0 0 1 ∧ (Cond.static yJ6_bitCount_0f7a4).before av.toArray s = true := va_cwS 1 hts gX4_choose_J6_bitCount_0f7a4 rfl rfl rfl (by decide +kernel) ⟨Nat.le_of_ble_eq_true rfl, Nat.le_of_ble_eq_true rfl⟩
  have cw38 : CallW rmX4_choose s av.toArray RX4 RX4 38 yX4_keepsOrder cX4_keepsOrder 7 (some .boolean) wsX4_keepsOrder rmX4_keepsOrder 0 0 1 := cwV 1 hts gX4_choose_X4_keepsOrder rfl rfl rfl (by decide +kernel) ⟨Nat.le_of_ble_eq_true rfl, Nat.le_of_ble_eq_true rfl⟩
  have F100 : ∀ (k46 : (Int32) → (Int32) → (Nat → Int32) → (Nat → Int32) → Int32 → Int32 → Int32 → Int32 → Option (Int32 × Int32 × Int32 × (Nat → Int32) × (Nat → Int32))) (hk46 : ∀ (H : Heap) (locs : List Loc) (w_g_count : Int32) (w_g_kept : Int32) (w_g_kinds : Nat → Int32) (w_g_positions : Nat → Int32) (u4 : Int32) (u5 : Int32) (u6 : Int32) (u7 : Int32), k46 w_g_count w_g_kept w_g_kinds w_g_positions u4 u5 u6 u7 = some (r, r_g_count, r_g_kept, r_g_kinds, r_g_positions) → va_P D vwCl (W_g_k_d cI cM a_g a_g_kinds a_g_positions a_k a_k_staticType a_k_dynamicType a_k_target a_k_argumentCounts a_k_temporaryCounts a_k_keys a_k_kinds a_k_values a_k_temporaryKinds a_k_newKinds a_k_newValues a_d a_d_sources a_d_keys a_d_defaults w_g_count w_g_kept w_g_kinds w_g_positions k_count k_frozenSet k_staticType k_dynamicType k_target k_argumentCounts k_temporaryCounts k_keys k_kinds k_values k_temporaryKinds k_newKinds k_newValues d_open d_method d_family d_oldCount d_keptSet d_count d_sources d_keys d_defaults d_usedKeys) H → va_D (fun q => q ∈ w0.map (·.1)) (W_g_k_d cI cM a_g a_g_kinds a_g_positions a_k a_k_staticType a_k_dynamicType a_k_target a_k_argumentCounts a_k_temporaryCounts a_k_keys a_k_kinds a_k_values a_k_temporaryKinds a_k_newKinds a_k_newValues a_d a_d_sources a_d_keys a_d_defaults w_g_count w_g_kept w_g_kinds w_g_positions k_count k_frozenSet k_staticType k_dynamicType k_target k_argumentCounts k_temporaryCounts k_keys k_kinds k_values k_temporaryKinds k_newKinds k_newValues d_open d_method d_family d_oldCount d_keptSet d_count d_sources d_keys d_defaults d_usedKeys) → va_S (fun q => q ∈ w0.map (·.1)) s.heap H locs → ∀ ls : Array Slot, lv_has ls 10 [(0, .ref a_g), (4, .int u4), (5, .int u5), (6, .int u6), (7, .int u7)] → WI p l e rmX4_choose s m av below meth c D w0 w1 (some (.int r)) H locs 46 ls []), ∀ (H : Heap) (locs : List Loc) (g_count : Int32) (g_kept : Int32) (g_kinds : Nat → Int32) (g_positions : Nat → Int32) (y4 : Int32) (y5 : Int32) (y6 : Int32) (y7 : Int32) (y8 : Int32) (s0 : Int32), jX4_choose_100 k_argumentCounts k_kinds d_keptSet d_count d_sources k46 g_count g_kept g_kinds g_positions y4 y5 y6 y7 y8 s0 = some (r, r_g_count, r_g_kept, r_g_kinds, r_g_positions) → va_P D vwCl (W_g_k_d cI cM a_g a_g_kinds a_g_positions a_k a_k_staticType a_k_dynamicType a_k_target a_k_argumentCounts a_k_temporaryCounts a_k_keys a_k_kinds a_k_values a_k_temporaryKinds a_k_newKinds a_k_newValues a_d a_d_sources a_d_keys a_d_defaults g_count g_kept g_kinds g_positions k_count k_frozenSet k_staticType k_dynamicType k_target k_argumentCounts k_temporaryCounts k_keys k_kinds k_values k_temporaryKinds k_newKinds k_newValues d_open d_method d_family d_oldCount d_keptSet d_count d_sources d_keys d_defaults d_usedKeys) H → va_D (fun q => q ∈ (w0).map (·.1)) (W_g_k_d cI cM a_g a_g_kinds a_g_positions a_k a_k_staticType a_k_dynamicType a_k_target a_k_argumentCounts a_k_temporaryCounts a_k_keys a_k_kinds a_k_values a_k_temporaryKinds a_k_newKinds a_k_newValues a_d a_d_sources a_d_keys a_d_defaults g_count g_kept g_kinds g_positions k_count k_frozenSet k_staticType k_dynamicType k_target k_argumentCounts k_temporaryCounts k_keys k_kinds k_values k_temporaryKinds k_newKinds k_newValues d_open d_method d_family d_oldCount d_keptSet d_count d_sources d_keys d_defaults d_usedKeys) → va_S (fun q => q ∈ (w0).map (·.1)) s.heap H locs → ∀ ls : Array Slot, lv_has ls 10 [(0, .ref a_g), (4, .int y4), (5, .int y5), (6, .int y6), (7, .int y7), (8, .int y8)] → WI p l e rmX4_choose s m av below meth c D w0 w1 (some (.int r)) H locs 100 ls [.int s0] := by
    intro k46 hk46
    intro H locs g_count g_kept g_kinds g_positions y4 y5 y6 y7 y8 s0 h hP hD hS ls hl
    unfold jX4_choose_100 at h
    refine lv_istore (lv' := [(9, .int s0), (0, .ref a_g), (4, .int y4), (5, .int y5), (6, .int y6), (7, .int y7), (8, .int y8)]) hx hb dX4_choose_100 hl (by decide) rfl (fun ls hl => ?_)
    refine lv_iload hx hb dX4_choose_102 (lv_at hl 6 rfl) ?_
    refine lv_if_eq (tgt := 125) hx hb dX4_choose_104 (by decide) (fun c1 => ?_) (fun c1 => ?_)
    · have h := ifp h c1
      refine lv_iinc (v := y7 + 1) (lv' := [(7, .int (y7 + 1)), (9, .int s0), (0, .ref a_g), (4, .int y4), (5, .int y5), (6, .int y6), (8, .int y8)]) hx hb dX4_choose_125 hl (k := 5) rfl rfl (by decide) rfl (fun ls hl => ?_)
      refine lv_goto (tgt := 46) hx hb dX4_choose_128 (by decide) ?_
      exact hk46 H locs g_count g_kept g_kinds g_positions y4 y5 y6 (y7 + 1) h hP hD hS ls (lv_sub (l' := [(0, .ref a_g), (4, .int y4), (5, .int y5), (6, .int y6), (7, .int (y7 + 1))]) hl [2, 3, 4, 5, 0] rfl)
    · have h := ifn h c1
      refine lv_iload hx hb dX4_choose_107 (lv_at hl 0 rfl) ?_
      refine lv_if_eq (tgt := 125) hx hb dX4_choose_109 (by decide) (fun c2 => ?_) (fun c2 => ?_)
      · have h := ifp h c2
        refine lv_iinc (v := y7 + 1) (lv' := [(7, .int (y7 + 1)), (9, .int s0), (0, .ref a_g), (4, .int y4), (5, .int y5), (6, .int y6), (8, .int y8)]) hx hb dX4_choose_125 hl (k := 5) rfl rfl (by decide) rfl (fun ls hl => ?_)
        refine lv_goto (tgt := 46) hx hb dX4_choose_128 (by decide) ?_
        exact hk46 H locs g_count g_kept g_kinds g_positions y4 y5 y6 (y7 + 1) h hP hD hS ls (lv_sub (l' := [(0, .ref a_g), (4, .int y4), (5, .int y5), (6, .int y6), (7, .int (y7 + 1))]) hl [2, 3, 4, 5, 0] rfl)
      · have h := ifn h c2
        refine lv_aload_n hx hb dX4_choose_112 rfl (lv_at hl 1 rfl) ?_
        refine lv_iload hx hb dX4_choose_113 (lv_at hl 5 rfl) ?_
        obtain ⟨v3, ev3, h⟩ := bn_some h
        have hs4 : va_P D vwCl (W_g cI cM a_g a_g_kinds a_g_positions g_count g_kept g_kinds g_positions) _ := blkP (Bs := [B_g cI cM a_g a_g_kinds a_g_positions g_count g_kept g_kinds g_positions, B_k cI cM a_k a_k_staticType a_k_dynamicType a_k_target a_k_argumentCounts a_k_temporaryCounts a_k_keys a_k_kinds a_k_values a_k_temporaryKinds a_k_newKinds a_k_newValues k_count k_frozenSet k_staticType k_dynamicType k_target k_argumentCounts k_temporaryCounts k_keys k_kinds k_values k_temporaryKinds k_newKinds k_newValues, B_d cI cM a_d a_d_sources a_d_keys a_d_defaults d_open d_method d_family d_oldCount d_keptSet d_count d_sources d_keys d_defaults d_usedKeys]) hP [0] (C0 := [B_g cI cM a_g a_g_kinds a_g_positions g_count g_kept g_kinds g_positions]) rfl rfl
        refine kV (As := [.int y7]) (rest := []) SS hKK (qX4_keepsOrder l D cI cM a_g a_g_kinds a_g_positions g_count g_kept g_kinds g_positions y7 v3 ev3) cw38 hs4 0 4 rfl rfl rfl hl.1 rfl (Nat.le_of_ble_eq_true rfl) dX4_choose_115 ⟨Nat.zero_le _, Nat.zero_le _⟩ ?_
        refine lv_if_eq (tgt := 125) hx hb dX4_choose_118 (by decide) (fun c5 => ?_) (fun c5 => ?_)
        · have h := ifp h c5
          refine lv_iinc (v := y7 + 1) (lv' := [(7, .int (y7 + 1)), (9, .int s0), (0, .ref a_g), (4, .int y4), (5, .int y5), (6, .int y6), (8, .int y8)]) hx hb dX4_choose_125 hl (k := 5) rfl rfl (by decide) rfl (fun ls hl => ?_)
          refine lv_goto (tgt := 46) hx hb dX4_choose_128 (by decide) ?_
          exact hk46 H locs g_count g_kept g_kinds g_positions y4 y5 y6 (y7 + 1) h hP hD hS ls (lv_sub (l' := [(0, .ref a_g), (4, .int y4), (5, .int y5), (6, .int y6), (7, .int (y7 + 1))]) hl [2, 3, 4, 5, 0] rfl)
        · have h := ifn h c5
          refine lv_iload hx hb dX4_choose_121 (lv_at hl 5 rfl) ?_
          refine lv_istore (lv' := [(6, .int y7), (9, .int s0), (0, .ref a_g), (4, .int y4), (5, .int y5), (7, .int y7), (8, .int y8)]) hx hb dX4_choose_123 hl (by decide) rfl (fun ls hl => ?_)
          refine lv_iinc (v := y7 + 1) (lv' := [(7, .int (y7 + 1)), (6, .int y7), (9, .int s0), (0, .ref a_g), (4, .int y4), (5, .int y5), (8, .int y8)]) hx hb dX4_choose_125 hl (k := 5) rfl rfl (by decide) rfl (fun ls hl => ?_)
          refine lv_goto (tgt := 46) hx hb dX4_choose_128 (by decide) ?_
          exact hk46 H locs g_count g_kept g_kinds g_positions y4 y5 y7 (y7 + 1) h hP hD hS ls (lv_sub (l' := [(0, .ref a_g), (4, .int y4), (5, .int y5), (6, .int y7), (7, .int (y7 + 1))]) hl [3, 4, 5, 1, 0] rfl)
  have F80 : ∀ (k46 : (Int32) → (Int32) → (Nat → Int32) → (Nat → Int32) → Int32 → Int32 → Int32 → Int32 → Option (Int32 × Int32 × Int32 × (Nat → Int32) × (Nat → Int32))) (hk46 : ∀ (H : Heap) (locs : List Loc) (w_g_count : Int32) (w_g_kept : Int32) (w_g_kinds : Nat → Int32) (w_g_positions : Nat → Int32) (u4 : Int32) (u5 : Int32) (u6 : Int32) (u7 : Int32), k46 w_g_count w_g_kept w_g_kinds w_g_positions u4 u5 u6 u7 = some (r, r_g_count, r_g_kept, r_g_kinds, r_g_positions) → va_P D vwCl (W_g_k_d cI cM a_g a_g_kinds a_g_positions a_k a_k_staticType a_k_dynamicType a_k_target a_k_argumentCounts a_k_temporaryCounts a_k_keys a_k_kinds a_k_values a_k_temporaryKinds a_k_newKinds a_k_newValues a_d a_d_sources a_d_keys a_d_defaults w_g_count w_g_kept w_g_kinds w_g_positions k_count k_frozenSet k_staticType k_dynamicType k_target k_argumentCounts k_temporaryCounts k_keys k_kinds k_values k_temporaryKinds k_newKinds k_newValues d_open d_method d_family d_oldCount d_keptSet d_count d_sources d_keys d_defaults d_usedKeys) H → va_D (fun q => q ∈ w0.map (·.1)) (W_g_k_d cI cM a_g a_g_kinds a_g_positions a_k a_k_staticType a_k_dynamicType a_k_target a_k_argumentCounts a_k_temporaryCounts a_k_keys a_k_kinds a_k_values a_k_temporaryKinds a_k_newKinds a_k_newValues a_d a_d_sources a_d_keys a_d_defaults w_g_count w_g_kept w_g_kinds w_g_positions k_count k_frozenSet k_staticType k_dynamicType k_target k_argumentCounts k_temporaryCounts k_keys k_kinds k_values k_temporaryKinds k_newKinds k_newValues d_open d_method d_family d_oldCount d_keptSet d_count d_sources d_keys d_defaults d_usedKeys) → va_S (fun q => q ∈ w0.map (·.1)) s.heap H locs → ∀ ls : Array Slot, lv_has ls 10 [(0, .ref a_g), (4, .int u4), (5, .int u5), (6, .int u6), (7, .int u7)] → WI p l e rmX4_choose s m av below meth c D w0 w1 (some (.int r)) H locs 46 ls []), ∀ (H : Heap) (locs : List Loc) (g_count : Int32) (g_kept : Int32) (g_kinds : Nat → Int32) (g_positions : Nat → Int32) (y4 : Int32) (y5 : Int32) (y6 : Int32) (y7 : Int32) (s0 : Int32), jX4_choose_80 k_argumentCounts k_kinds d_keptSet d_count d_sources k46 g_count g_kept g_kinds g_positions y4 y5 y6 y7 s0 = some (r, r_g_count, r_g_kept, r_g_kinds, r_g_positions) → va_P D vwCl (W_g_k_d cI cM a_g a_g_kinds a_g_positions a_k a_k_staticType a_k_dynamicType a_k_target a_k_argumentCounts a_k_temporaryCounts a_k_keys a_k_kinds a_k_values a_k_temporaryKinds a_k_newKinds a_k_newValues a_d a_d_sources a_d_keys a_d_defaults g_count g_kept g_kinds g_positions k_count k_frozenSet k_staticType k_dynamicType k_target k_argumentCounts k_temporaryCounts k_keys k_kinds k_values k_temporaryKinds k_newKinds k_newValues d_open d_method d_family d_oldCount d_keptSet d_count d_sources d_keys d_defaults d_usedKeys) H → va_D (fun q => q ∈ (w0).map (·.1)) (W_g_k_d cI cM a_g a_g_kinds a_g_positions a_k a_k_staticType a_k_dynamicType a_k_target a_k_argumentCounts a_k_temporaryCounts a_k_keys a_k_kinds a_k_values a_k_temporaryKinds a_k_newKinds a_k_newValues a_d a_d_sources a_d_keys a_d_defaults g_count g_kept g_kinds g_positions k_count k_frozenSet k_staticType k_dynamicType k_target k_argumentCounts k_temporaryCounts k_keys k_kinds k_values k_temporaryKinds k_newKinds k_newValues d_open d_method d_family d_oldCount d_keptSet d_count d_sources d_keys d_defaults d_usedKeys) → va_S (fun q => q ∈ (w0).map (·.1)) s.heap H locs → ∀ ls : Array Slot, lv_has ls 10 [(0, .ref a_g), (4, .int y4), (5, .int y5), (6, .int y6), (7, .int y7)] → WI p l e rmX4_choose s m av below meth c D w0 w1 (some (.int r)) H locs 80 ls [.int s0] := by
    intro k46 hk46
    intro H locs g_count g_kept g_kinds g_positions y4 y5 y6 y7 s0 h hP hD hS ls hl
    unfold jX4_choose_80 at h
    refine lv_istore (lv' := [(8, .int s0), (0, .ref a_g), (4, .int y4), (5, .int y5), (6, .int y6), (7, .int y7)]) hx hb dX4_choose_80 hl (by decide) rfl (fun ls hl => ?_)
    refine lv_iload hx hb dX4_choose_82 (lv_at hl 5 rfl) ?_
    obtain ⟨v1, ev1, h⟩ := bn_some h
    refine kS (As := [.int y7]) (rest := []) SS hKK (qJ6_bitCount_0f7a4 l D cI cM y7 v1 ev1) cw33 va_P_nil rfl hl.1 rfl (Nat.le_of_ble_eq_true rfl) dX4_choose_84 ⟨Nat.zero_le _, Nat.zero_le _⟩ ?_
    refine lv_iload hx hb dX4_choose_87 (lv_at hl 4 rfl) ?_
    obtain ⟨v2, ev2, h⟩ := bn_some h
    refine kS (As := [.int y6]) (rest := [.int v1]) SS hKK (qJ6_bitCount_0f7a4 l D cI cM y6 v2 ev2) cw33 va_P_nil rfl hl.1 rfl (Nat.le_of_ble_eq_true rfl) dX4_choose_89 ⟨Nat.zero_le _, Nat.zero_le _⟩ ?_
    refine lv_icmp_ge (tgt := 99) hx hb dX4_choose_92 (by decide) (fun c3 => ?_) (fun c3 => ?_)
    · have h := ifp h c3
      refine lv_iconst (v := 0) hx hb dX4_choose_99 (by decide) ?_
      exact F100 k46 hk46 H locs g_count g_kept g_kinds g_positions y4 y5 y6 y7 s0 0 h hP hD hS ls (lv_sub (l' := [(0, .ref a_g), (4, .int y4), (5, .int y5), (6, .int y6), (7, .int y7), (8, .int s0)]) hl [1, 2, 3, 4, 5, 0] rfl)
    · have h := ifn h c3
      refine lv_iconst (v := 1) hx hb dX4_choose_95 (by decide) ?_
      refine lv_goto (tgt := 100) hx hb dX4_choose_96 (by decide) ?_
      exact F100 k46 hk46 H locs g_count g_kept g_kinds g_positions y4 y5 y6 y7 s0 1 h hP hD hS ls (lv_sub (l' := [(0, .ref a_g), (4, .int y4), (5, .int y5), (6, .int y6), (7, .int y7), (8, .int s0)]) hl [1, 2, 3, 4, 5, 0] rfl)
  have F79 : ∀ (k46 : (Int32) → (Int32) → (Nat → Int32) → (Nat → Int32) → Int32 → Int32 → Int32 → Int32 → Option (Int32 × Int32 × Int32 × (Nat → Int32) × (Nat → Int32))) (hk46 : ∀ (H : Heap) (locs : List Loc) (w_g_count : Int32) (w_g_kept : Int32) (w_g_kinds : Nat → Int32) (w_g_positions : Nat → Int32) (u4 : Int32) (u5 : Int32) (u6 : Int32) (u7 : Int32), k46 w_g_count w_g_kept w_g_kinds w_g_positions u4 u5 u6 u7 = some (r, r_g_count, r_g_kept, r_g_kinds, r_g_positions) → va_P D vwCl (W_g_k_d cI cM a_g a_g_kinds a_g_positions a_k a_k_staticType a_k_dynamicType a_k_target a_k_argumentCounts a_k_temporaryCounts a_k_keys a_k_kinds a_k_values a_k_temporaryKinds a_k_newKinds a_k_newValues a_d a_d_sources a_d_keys a_d_defaults w_g_count w_g_kept w_g_kinds w_g_positions k_count k_frozenSet k_staticType k_dynamicType k_target k_argumentCounts k_temporaryCounts k_keys k_kinds k_values k_temporaryKinds k_newKinds k_newValues d_open d_method d_family d_oldCount d_keptSet d_count d_sources d_keys d_defaults d_usedKeys) H → va_D (fun q => q ∈ w0.map (·.1)) (W_g_k_d cI cM a_g a_g_kinds a_g_positions a_k a_k_staticType a_k_dynamicType a_k_target a_k_argumentCounts a_k_temporaryCounts a_k_keys a_k_kinds a_k_values a_k_temporaryKinds a_k_newKinds a_k_newValues a_d a_d_sources a_d_keys a_d_defaults w_g_count w_g_kept w_g_kinds w_g_positions k_count k_frozenSet k_staticType k_dynamicType k_target k_argumentCounts k_temporaryCounts k_keys k_kinds k_values k_temporaryKinds k_newKinds k_newValues d_open d_method d_family d_oldCount d_keptSet d_count d_sources d_keys d_defaults d_usedKeys) → va_S (fun q => q ∈ w0.map (·.1)) s.heap H locs → ∀ ls : Array Slot, lv_has ls 10 [(0, .ref a_g), (4, .int u4), (5, .int u5), (6, .int u6), (7, .int u7)] → WI p l e rmX4_choose s m av below meth c D w0 w1 (some (.int r)) H locs 46 ls []), ∀ (H : Heap) (locs : List Loc) (g_count : Int32) (g_kept : Int32) (g_kinds : Nat → Int32) (g_positions : Nat → Int32) (y4 : Int32) (y5 : Int32) (y6 : Int32) (y7 : Int32), jX4_choose_79 k_argumentCounts k_kinds d_keptSet d_count d_sources k46 g_count g_kept g_kinds g_positions y4 y5 y6 y7 = some (r, r_g_count, r_g_kept, r_g_kinds, r_g_positions) → va_P D vwCl (W_g_k_d cI cM a_g a_g_kinds a_g_positions a_k a_k_staticType a_k_dynamicType a_k_target a_k_argumentCounts a_k_temporaryCounts a_k_keys a_k_kinds a_k_values a_k_temporaryKinds a_k_newKinds a_k_newValues a_d a_d_sources a_d_keys a_d_defaults g_count g_kept g_kinds g_positions k_count k_frozenSet k_staticType k_dynamicType k_target k_argumentCounts k_temporaryCounts k_keys k_kinds k_values k_temporaryKinds k_newKinds k_newValues d_open d_method d_family d_oldCount d_keptSet d_count d_sources d_keys d_defaults d_usedKeys) H → va_D (fun q => q ∈ (w0).map (·.1)) (W_g_k_d cI cM a_g a_g_kinds a_g_positions a_k a_k_staticType a_k_dynamicType a_k_target a_k_argumentCounts a_k_temporaryCounts a_k_keys a_k_kinds a_k_values a_k_temporaryKinds a_k_newKinds a_k_newValues a_d a_d_sources a_d_keys a_d_defaults g_count g_kept g_kinds g_positions k_count k_frozenSet k_staticType k_dynamicType k_target k_argumentCounts k_temporaryCounts k_keys k_kinds k_values k_temporaryKinds k_newKinds k_newValues d_open d_method d_family d_oldCount d_keptSet d_count d_sources d_keys d_defaults d_usedKeys) → va_S (fun q => q ∈ (w0).map (·.1)) s.heap H locs → ∀ ls : Array Slot, lv_has ls 10 [(0, .ref a_g), (4, .int y4), (5, .int y5), (6, .int y6), (7, .int y7)] → WI p l e rmX4_choose s m av below meth c D w0 w1 (some (.int r)) H locs 79 ls [] := by
    intro k46 hk46
    intro H locs g_count g_kept g_kinds g_positions y4 y5 y6 y7 h hP hD hS ls hl
    unfold jX4_choose_79 at h
    refine lv_iconst (v := 0) hx hb dX4_choose_79 (by decide) ?_
    exact F80 k46 hk46 H locs g_count g_kept g_kinds g_positions y4 y5 y6 y7 0 h hP hD hS ls (lv_sub (l' := [(0, .ref a_g), (4, .int y4), (5, .int y5), (6, .int y6), (7, .int y7)]) hl [0, 1, 2, 3, 4] rfl)
  have F46 : ∀ (n : Nat) (H : Heap) (locs : List Loc) (g_count : Int32) (g_kept : Int32) (g_kinds : Nat → Int32) (g_positions : Nat → Int32) (y4 : Int32) (y5 : Int32) (y6 : Int32) (y7 : Int32), lX4_choose_46 k_argumentCounts k_kinds d_keptSet d_count d_sources n g_count g_kept g_kinds g_positions y4 y5 y6 y7 = some (r, r_g_count, r_g_kept, r_g_kinds, r_g_positions) → va_P D vwCl (W_g_k_d cI cM a_g a_g_kinds a_g_positions a_k a_k_staticType a_k_dynamicType a_k_target a_k_argumentCounts a_k_temporaryCounts a_k_keys a_k_kinds a_k_values a_k_temporaryKinds a_k_newKinds a_k_newValues a_d a_d_sources a_d_keys a_d_defaults g_count g_kept g_kinds g_positions k_count k_frozenSet k_staticType k_dynamicType k_target k_argumentCounts k_temporaryCounts k_keys k_kinds k_values k_temporaryKinds k_newKinds k_newValues d_open d_method d_family d_oldCount d_keptSet d_count d_sources d_keys d_defaults d_usedKeys) H → va_D (fun q => q ∈ (w0).map (·.1)) (W_g_k_d cI cM a_g a_g_kinds a_g_positions a_k a_k_staticType a_k_dynamicType a_k_target a_k_argumentCounts a_k_temporaryCounts a_k_keys a_k_kinds a_k_values a_k_temporaryKinds a_k_newKinds a_k_newValues a_d a_d_sources a_d_keys a_d_defaults g_count g_kept g_kinds g_positions k_count k_frozenSet k_staticType k_dynamicType k_target k_argumentCounts k_temporaryCounts k_keys k_kinds k_values k_temporaryKinds k_newKinds k_newValues d_open d_method d_family d_oldCount d_keptSet d_count d_sources d_keys d_defaults d_usedKeys) → va_S (fun q => q ∈ (w0).map (·.1)) s.heap H locs → ∀ ls : Array Slot, lv_has ls 10 [(0, .ref a_g), (4, .int y4), (5, .int y5), (6, .int y6), (7, .int y7)] → WI p l e rmX4_choose s m av below meth c D w0 w1 (some (.int r)) H locs 46 ls [] := by
    intro n
    induction n with
    | zero => intro H locs g_count g_kept g_kinds g_positions y4 y5 y6 y7 h; exact no_some h
    | succ n ih =>
      intro H locs g_count g_kept g_kinds g_positions y4 y5 y6 y7 h hP hD hS ls hl
      rw [lX4_choose_46_s] at h
      refine lv_iload hx hb dX4_choose_46 (lv_at hl 4 rfl) ?_
      refine lv_iconst (v := 5) hx hb dX4_choose_48 (by decide) ?_
      obtain ⟨v1, ev1, h⟩ := bn_some h
      refine kSN (As := [.int 5]) (rest := [.int y7]) SS hKK (qX8_bit l D cI cM 5 v1 ev1) cw30 va_P_nil rfl hl.1 rfl (Nat.le_of_ble_eq_true rfl) dX4_choose_49 ⟨Nat.zero_le _, Nat.zero_le _⟩ ?_
      refine lv_icmp_ge (tgt := 131) hx hb dX4_choose_52 (by decide) (fun c2 => ?_) (fun c2 => ?_)
      · have h := ifp h c2
        refine lv_iload hx hb dX4_choose_131 (lv_at hl 3 rfl) ?_
        simp only [Option.some.injEq, Prod.mk.injEq] at h
        obtain ⟨e0, e1, e2, e3, e4⟩ := h
        exact kRetI hx hb hr hlk e0 (by rw [← hw1, ← e1, ← e2, ← e3, ← e4]; exact hP) hS dX4_choose_133
      · have h := ifn h c2
        refine lv_iload hx hb dX4_choose_55 (lv_at hl 1 rfl) ?_
        refine lv_iload hx hb dX4_choose_57 (lv_at hl 4 rfl) ?_
        refine lv_iconst (v := (-1)) hx hb dX4_choose_59 (by decide) ?_
        refine lv_ixor hx hb dX4_choose_60 ?_
        refine lv_iand hx hb dX4_choose_61 ?_
        refine lv_if_ne (tgt := 79) hx hb dX4_choose_62 (by decide) (fun c3 => ?_) (fun c3 => ?_)
        · have h := ifn h c3
          exact F79 (fun w_g_count w_g_kept w_g_kinds w_g_positions u4 u5 u6 u7 => lX4_choose_46 k_argumentCounts k_kinds d_keptSet d_count d_sources n w_g_count w_g_kept w_g_kinds w_g_positions u4 u5 u6 u7) (fun H locs w_g_count w_g_kept w_g_kinds w_g_positions u4 u5 u6 u7 h hP hD hS ls hl => ih H locs w_g_count w_g_kept w_g_kinds w_g_positions u4 u5 u6 u7 h hP hD hS ls hl) H locs g_count g_kept g_kinds g_positions y4 y5 y6 y7 h hP hD hS ls (lv_sub (l' := [(0, .ref a_g), (4, .int y4), (5, .int y5), (6, .int y6), (7, .int y7)]) hl [0, 1, 2, 3, 4] rfl)
        · have h := ifp h c3
          refine lv_iload hx hb dX4_choose_65 (lv_at hl 4 rfl) ?_
          refine lv_iload hx hb dX4_choose_67 (lv_at hl 2 rfl) ?_
          refine lv_iconst (v := (-1)) hx hb dX4_choose_69 (by decide) ?_
          refine lv_ixor hx hb dX4_choose_70 ?_
          refine lv_iand hx hb dX4_choose_71 ?_
          refine lv_if_ne (tgt := 79) hx hb dX4_choose_72 (by decide) (fun c4 => ?_) (fun c4 => ?_)
          · have h := ifn h c4
            exact F79 (fun w_g_count w_g_kept w_g_kinds w_g_positions u4 u5 u6 u7 => lX4_choose_46 k_argumentCounts k_kinds d_keptSet d_count d_sources n w_g_count w_g_kept w_g_kinds w_g_positions u4 u5 u6 u7) (fun H locs w_g_count w_g_kept w_g_kinds w_g_positions u4 u5 u6 u7 h hP hD hS ls hl => ih H locs w_g_count w_g_kept w_g_kinds w_g_positions u4 u5 u6 u7 h hP hD hS ls hl) H locs g_count g_kept g_kinds g_positions y4 y5 y6 y7 h hP hD hS ls (lv_sub (l' := [(0, .ref a_g), (4, .int y4), (5, .int y5), (6, .int y6), (7, .int y7)]) hl [0, 1, 2, 3, 4] rfl)
          · have h := ifp h c4
            refine lv_iconst (v := 1) hx hb dX4_choose_75 (by decide) ?_
            refine lv_goto (tgt := 80) hx hb dX4_choose_76 (by decide) ?_
            exact F80 (fun w_g_count w_g_kept w_g_kinds w_g_positions u4 u5 u6 u7 => lX4_choose_46 k_argumentCounts k_kinds d_keptSet d_count d_sources n w_g_count w_g_kept w_g_kinds w_g_positions u4 u5 u6 u7) (fun H locs w_g_count w_g_kept w_g_kinds w_g_positions u4 u5 u6 u7 h hP hD hS ls hl => ih H locs w_g_count w_g_kept w_g_kinds w_g_positions u4 u5 u6 u7 h hP hD hS ls hl) H locs g_count g_kept g_kinds g_positions y4 y5 y6 y7 1 h hP hD hS ls (lv_sub (l' := [(0, .ref a_g), (4, .int y4), (5, .int y5), (6, .int y6), (7, .int y7)]) hl [0, 1, 2, 3, 4] rfl)
  unfold fX4_choose at h
  refine lv_aload_n hx hb dX4_choose_0 rfl (lv_at hl 0 rfl) ?_
  refine lv_aload_n hx hb dX4_choose_1 rfl (lv_at hl 1 rfl) ?_
  refine lv_iload_n hx hb dX4_choose_2 rfl (lv_at hl 2 rfl) ?_
  refine lv_aload_n hx hb dX4_choose_3 rfl (lv_at hl 3 rfl) ?_
  obtain ⟨g1, g2, g3, g4, eg1, h⟩ := bn4_some h
  refine kVB (As := [.ref a_k, .int x2, .ref a_d]) (rest := []) (st1 := []) (Bs := [B_g cI cM a_g a_g_kinds a_g_positions g_count g_kept g_kinds g_positions, B_k cI cM a_k a_k_staticType a_k_dynamicType a_k_target a_k_argumentCounts a_k_temporaryCounts a_k_keys a_k_kinds a_k_values a_k_temporaryKinds a_k_newKinds a_k_newValues k_count k_frozenSet k_staticType k_dynamicType k_target k_argumentCounts k_temporaryCounts k_keys k_kinds k_values k_temporaryKinds k_newKinds k_newValues, B_d cI cM a_d a_d_sources a_d_keys a_d_defaults d_open d_method d_family d_oldCount d_keptSet d_count d_sources d_keys d_defaults d_usedKeys]) (Bs1 := [B_g cI cM a_g a_g_kinds a_g_positions g1 g2 g3 g4, B_k cI cM a_k a_k_staticType a_k_dynamicType a_k_target a_k_argumentCounts a_k_temporaryCounts a_k_keys a_k_kinds a_k_values a_k_temporaryKinds a_k_newKinds a_k_newValues k_count k_frozenSet k_staticType k_dynamicType k_target k_argumentCounts k_temporaryCounts k_keys k_kinds k_values k_temporaryKinds k_newKinds k_newValues, B_d cI cM a_d a_d_sources a_d_keys a_d_defaults d_open d_method d_family d_oldCount d_keptSet d_count d_sources d_keys d_defaults d_usedKeys]) SS hKK (qX4_look l D cI cM a_g a_g_kinds a_g_positions a_k a_k_staticType a_k_dynamicType a_k_target a_k_argumentCounts a_k_temporaryCounts a_k_keys a_k_kinds a_k_values a_k_temporaryKinds a_k_newKinds a_k_newValues a_d a_d_sources a_d_keys a_d_defaults g_count g_kept g_kinds g_positions k_count k_frozenSet k_staticType k_dynamicType k_target k_argumentCounts k_temporaryCounts k_keys k_kinds k_values k_temporaryKinds k_newKinds k_newValues d_open d_method d_family d_oldCount d_keptSet d_count d_sources d_keys d_defaults d_usedKeys x2 g1 g2 g3 g4 eg1) cw18 hP hD hS (isC := [0, 1, 2]) (isR := []) (C0 := [B_g cI cM a_g a_g_kinds a_g_positions g_count g_kept g_kinds g_positions, B_k cI cM a_k a_k_staticType a_k_dynamicType a_k_target a_k_argumentCounts a_k_temporaryCounts a_k_keys a_k_kinds a_k_values a_k_temporaryKinds a_k_newKinds a_k_newValues k_count k_frozenSet k_staticType k_dynamicType k_target k_argumentCounts k_temporaryCounts k_keys k_kinds k_values k_temporaryKinds k_newKinds k_newValues, B_d cI cM a_d a_d_sources a_d_keys a_d_defaults d_open d_method d_family d_oldCount d_keptSet d_count d_sources d_keys d_defaults d_usedKeys]) (C1 := [B_g cI cM a_g a_g_kinds a_g_positions g1 g2 g3 g4, B_k cI cM a_k a_k_staticType a_k_dynamicType a_k_target a_k_argumentCounts a_k_temporaryCounts a_k_keys a_k_kinds a_k_values a_k_temporaryKinds a_k_newKinds a_k_newValues k_count k_frozenSet k_staticType k_dynamicType k_target k_argumentCounts k_temporaryCounts k_keys k_kinds k_values k_temporaryKinds k_newKinds k_newValues, B_d cI cM a_d a_d_sources a_d_keys a_d_defaults d_open d_method d_family d_oldCount d_keptSet d_count d_sources d_keys d_defaults d_usedKeys]) (Rr := []) (show (List.range 3).Perm ([0, 1, 2] ++ []) by decide) rfl rfl rfl rfl rfl rfl rfl rfl 0 4 rfl rfl rfl hl.1 rfl (Nat.le_of_ble_eq_true rfl) dX4_choose_4 ⟨Nat.zero_le _, Nat.zero_le _⟩ rfl (fun H locs hP hD hS => ?_)
  have hP : va_P D vwCl (W_g_k_d cI cM a_g a_g_kinds a_g_positions a_k a_k_staticType a_k_dynamicType a_k_target a_k_argumentCounts a_k_temporaryCounts a_k_keys a_k_kinds a_k_values a_k_temporaryKinds a_k_newKinds a_k_newValues a_d a_d_sources a_d_keys a_d_defaults g1 g2 g3 g4 k_count k_frozenSet k_staticType k_dynamicType k_target k_argumentCounts k_temporaryCounts k_keys k_kinds k_values k_temporaryKinds k_newKinds k_newValues d_open d_method d_family d_oldCount d_keptSet d_count d_sources d_keys d_defaults d_usedKeys) H := hP
  have hD : va_D _ (W_g_k_d cI cM a_g a_g_kinds a_g_positions a_k a_k_staticType a_k_dynamicType a_k_target a_k_argumentCounts a_k_temporaryCounts a_k_keys a_k_kinds a_k_values a_k_temporaryKinds a_k_newKinds a_k_newValues a_d a_d_sources a_d_keys a_d_defaults g1 g2 g3 g4 k_count k_frozenSet k_staticType k_dynamicType k_target k_argumentCounts k_temporaryCounts k_keys k_kinds k_values k_temporaryKinds k_newKinds k_newValues d_open d_method d_family d_oldCount d_keptSet d_count d_sources d_keys d_defaults d_usedKeys) := hD
  refine lv_aload_n hx hb dX4_choose_7 rfl (lv_at hl 0 rfl) ?_
  refine lv_iconst (v := 2) hx hb dX4_choose_8 (by decide) ?_
  obtain ⟨v5, ev5, h⟩ := bn_some h
  have hs6 : va_P D vwCl (W_g cI cM a_g a_g_kinds a_g_positions g1 g2 g3 g4) _ := blkP (Bs := [B_g cI cM a_g a_g_kinds a_g_positions g1 g2 g3 g4, B_k cI cM a_k a_k_staticType a_k_dynamicType a_k_target a_k_argumentCounts a_k_temporaryCounts a_k_keys a_k_kinds a_k_values a_k_temporaryKinds a_k_newKinds a_k_newValues k_count k_frozenSet k_staticType k_dynamicType k_target k_argumentCounts k_temporaryCounts k_keys k_kinds k_values k_temporaryKinds k_newKinds k_newValues, B_d cI cM a_d a_d_sources a_d_keys a_d_defaults d_open d_method d_family d_oldCount d_keptSet d_count d_sources d_keys d_defaults d_usedKeys]) hP [0] (C0 := [B_g cI cM a_g a_g_kinds a_g_positions g1 g2 g3 g4]) rfl rfl
  refine kV (As := [.int 2]) (rest := []) SS hKK (qX4_ofKind l D cI cM a_g a_g_kinds a_g_positions g1 g2 g3 g4 2 v5 ev5) cw22 hs6 0 4 rfl rfl rfl hl.1 rfl (Nat.le_of_ble_eq_true rfl) dX4_choose_9 ⟨Nat.zero_le _, Nat.zero_le _⟩ ?_
  refine lv_aload_n hx hb dX4_choose_12 rfl (lv_at hl 0 rfl) ?_
  refine va_get (D := D) (ci := 4) (v := .int g2) (C := RX4) (T := TX4) (N := 4) hx hb hts hinX4 hown hKK.1 hP 0 rfl rfl 1 (by decide) lk26 (fun _ h9 => h9) rfl dX4_choose_13 ?_
  refine lv_iconst (v := (-1)) hx hb dX4_choose_16 (by decide) ?_
  refine lv_ixor hx hb dX4_choose_17 ?_
  refine lv_iand hx hb dX4_choose_18 ?_
  refine lv_istore (lv' := [(4, .int (v5 &&& (g2 ^^^ (-1)))), (0, .ref a_g), (1, .ref a_k), (2, .int x2), (3, .ref a_d)]) hx hb dX4_choose_19 hl (by decide) rfl (fun ls hl => ?_)
  refine lv_aload_n hx hb dX4_choose_21 rfl (lv_at hl 1 rfl) ?_
  refine lv_iconst (v := 2) hx hb dX4_choose_22 (by decide) ?_
  obtain ⟨v7, ev7, h⟩ := bn_some h
  refine kV (As := [.int 2]) (rest := []) SS hKK (qX4_ofKind l D cI cM a_g a_g_kinds a_g_positions g1 g2 g3 g4 2 v7 ev7) cw22 hs6 0 4 rfl rfl rfl hl.1 rfl (Nat.le_of_ble_eq_true rfl) dX4_choose_23 ⟨Nat.zero_le _, Nat.zero_le _⟩ ?_
  refine lv_aload_n hx hb dX4_choose_26 rfl (lv_at hl 1 rfl) ?_
  refine lv_iconst (v := 1) hx hb dX4_choose_27 (by decide) ?_
  obtain ⟨v8, ev8, h⟩ := bn_some h
  refine kV (As := [.int 1]) (rest := [.int v7]) SS hKK (qX4_ofKind l D cI cM a_g a_g_kinds a_g_positions g1 g2 g3 g4 1 v8 ev8) cw22 hs6 0 4 rfl rfl rfl hl.1 rfl (Nat.le_of_ble_eq_true rfl) dX4_choose_28 ⟨Nat.zero_le _, Nat.zero_le _⟩ ?_
  refine lv_aload_n hx hb dX4_choose_31 rfl (lv_at hl 1 rfl) ?_
  refine va_get (D := D) (ci := 4) (v := .int g2) (C := RX4) (T := TX4) (N := 4) hx hb hts hinX4 hown hKK.1 hP 0 rfl rfl 1 (by decide) lk26 (fun _ h9 => h9) rfl dX4_choose_32 ?_
  refine lv_iand hx hb dX4_choose_35 ?_
  refine lv_ior hx hb dX4_choose_36 ?_
  refine lv_istore (lv' := [(5, .int (v7 ||| (v8 &&& g2))), (4, .int (v5 &&& (g2 ^^^ (-1)))), (0, .ref a_g), (1, .ref a_k), (2, .int x2), (3, .ref a_d)]) hx hb dX4_choose_37 hl (by decide) rfl (fun ls hl => ?_)
  refine lv_iload hx hb dX4_choose_39 (lv_at hl 0 rfl) ?_
  refine lv_istore (lv' := [(6, .int (v7 ||| (v8 &&& g2))), (5, .int (v7 ||| (v8 &&& g2))), (4, .int (v5 &&& (g2 ^^^ (-1)))), (0, .ref a_g), (1, .ref a_k), (2, .int x2), (3, .ref a_d)]) hx hb dX4_choose_41 hl (by decide) rfl (fun ls hl => ?_)
  refine lv_iconst (v := 0) hx hb dX4_choose_43 (by decide) ?_
  refine lv_istore (lv' := [(7, .int 0), (6, .int (v7 ||| (v8 &&& g2))), (5, .int (v7 ||| (v8 &&& g2))), (4, .int (v5 &&& (g2 ^^^ (-1)))), (0, .ref a_g), (1, .ref a_k), (2, .int x2), (3, .ref a_d)]) hx hb dX4_choose_44 hl (by decide) rfl (fun ls hl => ?_)
  exact F46 5000 H locs g1 g2 g3 g4 (v5 &&& (g2 ^^^ (-1))) (v7 ||| (v8 &&& g2)) (v7 ||| (v8 &&& g2)) 0 h hP hD hS ls (lv_sub (l' := [(0, .ref a_g), (4, .int (v5 &&& (g2 ^^^ (-1)))), (5, .int (v7 ||| (v8 &&& g2))), (6, .int (v7 ||| (v8 &&& g2))), (7, .int 0)]) hl [4, 3, 2, 1, 0] rfl)
set_option maxHeartbeats 8000000 in
set_option maxRecDepth 100000 in
theorem qX5_exists (l : Launch) (D : va_G) (cI cM : ClassId) (a_m a_m_type a_m_name a_m_arity a_m_keys a_m_defaults : Nat) (m_count : Int32) (m_type : Nat → Int32) (m_name : Nat → Int32) (m_arity : Nat → Int32) (m_keys : Nat → Int32) (m_defaults : Nat → Int32) (x1 : Int32) (r : Int32) (h : fX5_exists m_count x1 = some r) : PM l yX5_exists wsX5_exists rmX5_exists D cI cM [.ref a_m, .int x1] (W_m cI cM a_m a_m_type a_m_name a_m_arity a_m_keys a_m_defaults m_count m_type m_name m_arity m_keys m_defaults) r := by
  refine PM.of (cc := cX5_exists) (maxL := 2) (ret := (some .boolean)) (by decide) rfl (Nat.le_of_ble_eq_true rfl) ?_
  intro p e s m below meth c ls hx hb hr hml hown hts hlk hP hKK hl
  have hown : s.vm.findClass RX5 = some m.cls := hown
  have hl : lv_has ls 2 [(0, .ref a_m), (1, .int x1)] := hl
  generalize hav : ([.ref a_m, .int x1] : List Value) = av at hts ⊢
  have SS : CallFix p m c cX5_exists 2 s av.toArray wsX5_exists RX5 := ⟨hx, hb, hml, hown, hts⟩
  have hinX5 : ∀ w ∈ u_ws RX5 TX5 6, w ∈ wsX5_exists := by decide +kernel
  have lk27 := hts (.fieldLink RX5 27 "SignatureChanger$Methods" "count" "I") (List.mem_of_getElem? (i := 1) rfl)
  unfold fX5_exists at h
  refine lv_iload_n hx hb dX5_exists_0 rfl (lv_at hl 1 rfl) ?_
  refine lv_if_lt (tgt := 16) hx hb dX5_exists_1 (by decide) (fun c1 => ?_) (fun c1 => ?_)
  · have h := ifp h c1
    refine lv_iconst (v := 0) hx hb dX5_exists_16 (by decide) ?_
    exact kRetZ hx hb hr hlk rfl (Option.some.inj h) dX5_exists_17
  · have h := ifn h c1
    refine lv_iload_n hx hb dX5_exists_4 rfl (lv_at hl 1 rfl) ?_
    refine lv_aload_n hx hb dX5_exists_5 rfl (lv_at hl 0 rfl) ?_
    refine va_get (D := D) (ci := 5) (v := .int m_count) (C := RX5) (T := TX5) (N := 6) hx hb hts hinX5 hown hKK.1 hP 0 rfl rfl 0 (by decide) lk27 (fun _ h9 => h9) rfl dX5_exists_6 ?_
    refine lv_icmp_ge (tgt := 16) hx hb dX5_exists_9 (by decide) (fun c2 => ?_) (fun c2 => ?_)
    · have h := ifp h c2
      refine lv_iconst (v := 0) hx hb dX5_exists_16 (by decide) ?_
      exact kRetZ hx hb hr hlk rfl (Option.some.inj h) dX5_exists_17
    · have h := ifn h c2
      refine lv_iconst (v := 1) hx hb dX5_exists_12 (by decide) ?_
      refine lv_goto (tgt := 17) hx hb dX5_exists_13 (by decide) ?_
      exact kRetZ hx hb hr hlk rfl (Option.some.inj h) dX5_exists_17
set_option maxHeartbeats 8000000 in
set_option maxRecDepth 100000 in
theorem qX5_withSignature (l : Launch) (D : va_G) (cI cM : ClassId) (a_m a_m_type a_m_name a_m_arity a_m_keys a_m_defaults : Nat) (m_count : Int32) (m_type : Nat → Int32) (m_name : Nat → Int32) (m_arity : Nat → Int32) (m_keys : Nat → Int32) (m_defaults : Nat → Int32) (x1 : Int32) (x2 : Int32) (x3 : Int32) (r : Int32) (h : fX5_withSignature m_count m_type m_name m_arity x1 x2 x3 = some r) : PM l yX5_withSignature wsX5_withSignature rmX5_withSignature D cI cM [.ref a_m, .int x1, .int x2, .int x3] (W_m cI cM a_m a_m_type a_m_name a_m_arity a_m_keys a_m_defaults m_count m_type m_name m_arity m_keys m_defaults) r := by
  refine PM.of (cc := cX5_withSignature) (maxL := 7) (ret := (some .int)) (by decide) rfl (Nat.le_of_ble_eq_true rfl) ?_
  intro p e s m below meth c ls hx hb hr hml hown hts hlk hP hKK hl
  have hown : s.vm.findClass RX5 = some m.cls := hown
  have hl : lv_has ls 7 [(0, .ref a_m), (1, .int x1), (2, .int x2), (3, .int x3)] := hl
  generalize hav : ([.ref a_m, .int x1, .int x2, .int x3] : List Value) = av at hts ⊢
  have SS : CallFix p m c cX5_withSignature 7 s av.toArray wsX5_withSignature RX5 := ⟨hx, hb, hml, hown, hts⟩
  have hinX5 : ∀ w ∈ u_ws RX5 TX5 6, w ∈ wsX5_withSignature := by decide +kernel
  have lk9 := hts (.fieldLink RX5 9 "SignatureChanger$Methods" "type" "[I") (List.mem_of_getElem? (i := 4) rfl)
  have lk15 := hts (.fieldLink RX5 15 "SignatureChanger$Methods" "name" "[I") (List.mem_of_getElem? (i := 2) rfl)
  have lk18 := hts (.fieldLink RX5 18 "SignatureChanger$Methods" "arity" "[I") (List.mem_of_getElem? (i := 3) rfl)
  have lk27 := hts (.fieldLink RX5 27 "SignatureChanger$Methods" "count" "I") (List.mem_of_getElem? (i := 1) rfl)
  have cw35 : va_CN rmX5_withSignature s av.toArray RX5 35 yX8_bit RX8 cX8_bit 1 (some .int) wsX8_bit rmX8_bit 0 0 1 ∧ (Cond.static yX8_bit).before av.toArray s = true ∧ True := ⟨va_cnB 1 hts gX5_withSignature_X8_bit_n35 rfl rfl rfl (hKK.2.at 10 rfl) (hts (.initialized RX8) (List.mem_of_getElem? (i := 6) rfl)) (by decide +kernel) ⟨Nat.le_of_ble_eq_true rfl, Nat.le_of_ble_eq_true rfl⟩, hts (.static yX8_bit) (List.mem_of_getElem? (i := 8) rfl), trivial⟩
  have cw39 : va_CN rmX5_withSignature s av.toArray RX5 39 yX8_contains RX8 cX8_contains 2 (some .boolean) wsX8_contains rmX8_contains 0 0 2 ∧ (Cond.static yX8_contains).before av.toArray s = true ∧ True := ⟨va_cnB 2 hts gX5_withSignature_X8_contains_n39 rfl rfl rfl (hKK.2.at 9 rfl) (hts (.initialized RX8) (List.mem_of_getElem? (i := 6) rfl)) (by decide +kernel) ⟨Nat.le_of_ble_eq_true rfl, Nat.le_of_ble_eq_true rfl⟩, hts (.static yX8_contains) (List.mem_of_getElem? (i := 5) rfl), trivial⟩
  have F42 : ∀ (k6 : Int32 → Int32 → Int32 → Int32 → Int32 → Option (Int32)) (hk6 : ∀ (u1 : Int32) (u2 : Int32) (u3 : Int32) (u4 : Int32) (u5 : Int32), k6 u1 u2 u3 u4 u5 = some r → ∀ ls : Array Slot, lv_has ls 7 [(0, .ref a_m), (1, .int u1), (2, .int u2), (3, .int u3), (4, .int u4), (5, .int u5)] → WP p l e rmX5_withSignature s m av below meth c r 6 ls []), ∀ (y1 : Int32) (y2 : Int32) (y3 : Int32) (y4 : Int32) (y5 : Int32) (s0 : Int32), jX5_withSignature_42 m_count m_type m_name m_arity k6 y1 y2 y3 y4 y5 s0 = some r → ∀ ls : Array Slot, lv_has ls 7 [(0, .ref a_m), (1, .int y1), (2, .int y2), (3, .int y3), (4, .int y4), (5, .int y5)] → WP p l e rmX5_withSignature s m av below meth c r 42 ls [.int s0] := by
    intro k6 hk6
    intro y1 y2 y3 y4 y5 s0 h ls hl
    unfold jX5_withSignature_42 at h
    refine lv_istore (lv' := [(6, .int s0), (0, .ref a_m), (1, .int y1), (2, .int y2), (3, .int y3), (4, .int y4), (5, .int y5)]) hx hb dX5_withSignature_42 hl (by decide) rfl (fun ls hl => ?_)
    refine lv_iload hx hb dX5_withSignature_44 (lv_at hl 0 rfl) ?_
    refine lv_if_eq (tgt := 73) hx hb dX5_withSignature_46 (by decide) (fun c1 => ?_) (fun c1 => ?_)
    · have h := ifp h c1
      refine lv_iinc (v := y5 + 1) (lv' := [(5, .int (y5 + 1)), (6, .int s0), (0, .ref a_m), (1, .int y1), (2, .int y2), (3, .int y3), (4, .int y4)]) hx hb dX5_withSignature_73 hl (k := 6) rfl rfl (by decide) rfl (fun ls hl => ?_)
      refine lv_goto (tgt := 6) hx hb dX5_withSignature_76 (by decide) ?_
      exact hk6 y1 y2 y3 y4 (y5 + 1) h ls (lv_sub (l' := [(0, .ref a_m), (1, .int y1), (2, .int y2), (3, .int y3), (4, .int y4), (5, .int (y5 + 1))]) hl [2, 3, 4, 5, 6, 0] rfl)
    · have h := ifn h c1
      refine lv_iload_n hx hb dX5_withSignature_49 rfl (lv_at hl 4 rfl) ?_
      refine lv_aload_n hx hb dX5_withSignature_50 rfl (lv_at hl 1 rfl) ?_
      refine va_get (D := D) (ci := 5) (v := .ref a_m_type) (C := RX5) (T := TX5) (N := 6) hx hb hts hinX5 hown hKK.1 hP 0 rfl rfl 1 (by decide) lk9 (fun _ h9 => h9) rfl dX5_withSignature_51 ?_
      refine lv_iload hx hb dX5_withSignature_54 (lv_at hl 6 rfl) ?_
      obtain ⟨v2, iv2, ev2, h⟩ := rd_some h
      refine kAld hx hb hKK hP 1 rfl iv2 ev2 dX5_withSignature_56 ?_
      obtain ⟨v3, ev3, h⟩ := bn_some h
      refine kSN (As := [.int y3, .int v2]) (rest := []) SS hKK (qX8_contains l D cI cM y3 v2 v3 ev3) cw39 va_P_nil rfl hl.1 rfl (Nat.le_of_ble_eq_true rfl) dX5_withSignature_57 ⟨Nat.zero_le _, Nat.zero_le _⟩ ?_
      refine lv_if_eq (tgt := 73) hx hb dX5_withSignature_60 (by decide) (fun c4 => ?_) (fun c4 => ?_)
      · have h := ifp h c4
        refine lv_iinc (v := y5 + 1) (lv' := [(5, .int (y5 + 1)), (6, .int s0), (0, .ref a_m), (1, .int y1), (2, .int y2), (3, .int y3), (4, .int y4)]) hx hb dX5_withSignature_73 hl (k := 6) rfl rfl (by decide) rfl (fun ls hl => ?_)
        refine lv_goto (tgt := 6) hx hb dX5_withSignature_76 (by decide) ?_
        exact hk6 y1 y2 y3 y4 (y5 + 1) h ls (lv_sub (l' := [(0, .ref a_m), (1, .int y1), (2, .int y2), (3, .int y3), (4, .int y4), (5, .int (y5 + 1))]) hl [2, 3, 4, 5, 6, 0] rfl)
      · have h := ifn h c4
        refine lv_iload hx hb dX5_withSignature_63 (lv_at hl 5 rfl) ?_
        refine lv_iload hx hb dX5_withSignature_65 (lv_at hl 6 rfl) ?_
        obtain ⟨v5, ev5, h⟩ := bn_some h
        refine kSN (As := [.int y5]) (rest := [.int y4]) SS hKK (qX8_bit l D cI cM y5 v5 ev5) cw35 va_P_nil rfl hl.1 rfl (Nat.le_of_ble_eq_true rfl) dX5_withSignature_67 ⟨Nat.zero_le _, Nat.zero_le _⟩ ?_
        refine lv_ior hx hb dX5_withSignature_70 ?_
        refine lv_istore (lv' := [(4, .int (y4 ||| v5)), (6, .int s0), (0, .ref a_m), (1, .int y1), (2, .int y2), (3, .int y3), (5, .int y5)]) hx hb dX5_withSignature_71 hl (by decide) rfl (fun ls hl => ?_)
        refine lv_iinc (v := y5 + 1) (lv' := [(5, .int (y5 + 1)), (4, .int (y4 ||| v5)), (6, .int s0), (0, .ref a_m), (1, .int y1), (2, .int y2), (3, .int y3)]) hx hb dX5_withSignature_73 hl (k := 6) rfl rfl (by decide) rfl (fun ls hl => ?_)
        refine lv_goto (tgt := 6) hx hb dX5_withSignature_76 (by decide) ?_
        exact hk6 y1 y2 y3 (y4 ||| v5) (y5 + 1) h ls (lv_sub (l' := [(0, .ref a_m), (1, .int y1), (2, .int y2), (3, .int y3), (4, .int (y4 ||| v5)), (5, .int (y5 + 1))]) hl [3, 4, 5, 6, 1, 0] rfl)
  have F41 : ∀ (k6 : Int32 → Int32 → Int32 → Int32 → Int32 → Option (Int32)) (hk6 : ∀ (u1 : Int32) (u2 : Int32) (u3 : Int32) (u4 : Int32) (u5 : Int32), k6 u1 u2 u3 u4 u5 = some r → ∀ ls : Array Slot, lv_has ls 7 [(0, .ref a_m), (1, .int u1), (2, .int u2), (3, .int u3), (4, .int u4), (5, .int u5)] → WP p l e rmX5_withSignature s m av below meth c r 6 ls []), ∀ (y1 : Int32) (y2 : Int32) (y3 : Int32) (y4 : Int32) (y5 : Int32), jX5_withSignature_41 m_count m_type m_name m_arity k6 y1 y2 y3 y4 y5 = some r → ∀ ls : Array Slot, lv_has ls 7 [(0, .ref a_m), (1, .int y1), (2, .int y2), (3, .int y3), (4, .int y4), (5, .int y5)] → WP p l e rmX5_withSignature s m av below meth c r 41 ls [] := by
    intro k6 hk6
    intro y1 y2 y3 y4 y5 h ls hl
    unfold jX5_withSignature_41 at h
    refine lv_iconst (v := 0) hx hb dX5_withSignature_41 (by decide) ?_
    exact F42 k6 hk6 y1 y2 y3 y4 y5 0 h ls (lv_sub (l' := [(0, .ref a_m), (1, .int y1), (2, .int y2), (3, .int y3), (4, .int y4), (5, .int y5)]) hl [0, 1, 2, 3, 4, 5] rfl)
  have F6 : ∀ (n : Nat) (y1 : Int32) (y2 : Int32) (y3 : Int32) (y4 : Int32) (y5 : Int32), lX5_withSignature_6 m_count m_type m_name m_arity n y1 y2 y3 y4 y5 = some r → ∀ ls : Array Slot, lv_has ls 7 [(0, .ref a_m), (1, .int y1), (2, .int y2), (3, .int y3), (4, .int y4), (5, .int y5)] → WP p l e rmX5_withSignature s m av below meth c r 6 ls [] := by
    intro n
    induction n with
    | zero => intro y1 y2 y3 y4 y5 h; exact no_some h
    | succ n ih =>
      intro y1 y2 y3 y4 y5 h ls hl
      rw [lX5_withSignature_6_s] at h
      refine lv_iload hx hb dX5_withSignature_6 (lv_at hl 5 rfl) ?_
      refine lv_aload_n hx hb dX5_withSignature_8 rfl (lv_at hl 0 rfl) ?_
      refine va_get (D := D) (ci := 5) (v := .int m_count) (C := RX5) (T := TX5) (N := 6) hx hb hts hinX5 hown hKK.1 hP 0 rfl rfl 0 (by decide) lk27 (fun _ h9 => h9) rfl dX5_withSignature_9 ?_
      refine lv_icmp_ge (tgt := 79) hx hb dX5_withSignature_12 (by decide) (fun c1 => ?_) (fun c1 => ?_)
      · have h := ifp h c1
        refine lv_iload hx hb dX5_withSignature_79 (lv_at hl 4 rfl) ?_
        exact kRet hx hb hr hlk (Option.some.inj h) dX5_withSignature_81
      · have h := ifn h c1
        refine lv_aload_n hx hb dX5_withSignature_15 rfl (lv_at hl 0 rfl) ?_
        refine va_get (D := D) (ci := 5) (v := .ref a_m_name) (C := RX5) (T := TX5) (N := 6) hx hb hts hinX5 hown hKK.1 hP 0 rfl rfl 2 (by decide) lk15 (fun _ h9 => h9) rfl dX5_withSignature_16 ?_
        refine lv_iload hx hb dX5_withSignature_19 (lv_at hl 5 rfl) ?_
        obtain ⟨v2, iv2, ev2, h⟩ := rd_some h
        refine kAld hx hb hKK hP 2 rfl iv2 ev2 dX5_withSignature_21 ?_
        refine lv_iload_n hx hb dX5_withSignature_22 rfl (lv_at hl 1 rfl) ?_
        refine lv_icmp_ne (tgt := 41) hx hb dX5_withSignature_23 (by decide) (fun c3 => ?_) (fun c3 => ?_)
        · have h := ifn h c3
          exact F41 (fun u1 u2 u3 u4 u5 => lX5_withSignature_6 m_count m_type m_name m_arity n u1 u2 u3 u4 u5) (fun u1 u2 u3 u4 u5 h ls hl => ih u1 u2 u3 u4 u5 h ls hl) y1 y2 y3 y4 y5 h ls (lv_sub (l' := [(0, .ref a_m), (1, .int y1), (2, .int y2), (3, .int y3), (4, .int y4), (5, .int y5)]) hl [0, 1, 2, 3, 4, 5] rfl)
        · have h := ifp h c3
          refine lv_aload_n hx hb dX5_withSignature_26 rfl (lv_at hl 0 rfl) ?_
          refine va_get (D := D) (ci := 5) (v := .ref a_m_arity) (C := RX5) (T := TX5) (N := 6) hx hb hts hinX5 hown hKK.1 hP 0 rfl rfl 3 (by decide) lk18 (fun _ h9 => h9) rfl dX5_withSignature_27 ?_
          refine lv_iload hx hb dX5_withSignature_30 (lv_at hl 5 rfl) ?_
          obtain ⟨v4, iv4, ev4, h⟩ := rd_some h
          refine kAld hx hb hKK hP 3 rfl iv4 ev4 dX5_withSignature_32 ?_
          refine lv_iload_n hx hb dX5_withSignature_33 rfl (lv_at hl 2 rfl) ?_
          refine lv_icmp_ne (tgt := 41) hx hb dX5_withSignature_34 (by decide) (fun c5 => ?_) (fun c5 => ?_)
          · have h := ifn h c5
            exact F41 (fun u1 u2 u3 u4 u5 => lX5_withSignature_6 m_count m_type m_name m_arity n u1 u2 u3 u4 u5) (fun u1 u2 u3 u4 u5 h ls hl => ih u1 u2 u3 u4 u5 h ls hl) y1 y2 y3 y4 y5 h ls (lv_sub (l' := [(0, .ref a_m), (1, .int y1), (2, .int y2), (3, .int y3), (4, .int y4), (5, .int y5)]) hl [0, 1, 2, 3, 4, 5] rfl)
          · have h := ifp h c5
            refine lv_iconst (v := 1) hx hb dX5_withSignature_37 (by decide) ?_
            refine lv_goto (tgt := 42) hx hb dX5_withSignature_38 (by decide) ?_
            exact F42 (fun u1 u2 u3 u4 u5 => lX5_withSignature_6 m_count m_type m_name m_arity n u1 u2 u3 u4 u5) (fun u1 u2 u3 u4 u5 h ls hl => ih u1 u2 u3 u4 u5 h ls hl) y1 y2 y3 y4 y5 1 h ls (lv_sub (l' := [(0, .ref a_m), (1, .int y1), (2, .int y2), (3, .int y3), (4, .int y4), (5, .int y5)]) hl [0, 1, 2, 3, 4, 5] rfl)
  unfold fX5_withSignature at h
  refine lv_iconst (v := 0) hx hb dX5_withSignature_0 (by decide) ?_
  refine lv_istore (lv' := [(4, .int 0), (0, .ref a_m), (1, .int x1), (2, .int x2), (3, .int x3)]) hx hb dX5_withSignature_1 hl (by decide) rfl (fun ls hl => ?_)
  refine lv_iconst (v := 0) hx hb dX5_withSignature_3 (by decide) ?_
  refine lv_istore (lv' := [(5, .int 0), (4, .int 0), (0, .ref a_m), (1, .int x1), (2, .int x2), (3, .int x3)]) hx hb dX5_withSignature_4 hl (by decide) rfl (fun ls hl => ?_)
  exact F6 5000 x1 x2 x3 0 0 h ls (lv_sub (l' := [(0, .ref a_m), (1, .int x1), (2, .int x2), (3, .int x3), (4, .int 0), (5, .int 0)]) hl [2, 3, 4, 5, 1, 0] rfl)
set_option maxHeartbeats 8000000 in
set_option maxRecDepth 100000 in
theorem qX5_smallest (l : Launch) (D : va_G) (cI cM : ClassId) (a_m a_m_type a_m_name a_m_arity a_m_keys a_m_defaults : Nat) (m_count : Int32) (m_type : Nat → Int32) (m_name : Nat → Int32) (m_arity : Nat → Int32) (m_keys : Nat → Int32) (m_defaults : Nat → Int32) (x1 : Int32) (r : Int32) (h : fX5_smallest m_count x1 = some r) : PM l yX5_smallest wsX5_smallest rmX5_smallest D cI cM [.ref a_m, .int x1] (W_m cI cM a_m a_m_type a_m_name a_m_arity a_m_keys a_m_defaults m_count m_type m_name m_arity m_keys m_defaults) r := by
  refine PM.of (cc := cX5_smallest) (maxL := 3) (ret := (some .int)) (by decide) rfl (Nat.le_of_ble_eq_true rfl) ?_
  intro p e s m below meth c ls hx hb hr hml hown hts hlk hP hKK hl
  have hown : s.vm.findClass RX5 = some m.cls := hown
  have hl : lv_has ls 3 [(0, .ref a_m), (1, .int x1)] := hl
  generalize hav : ([.ref a_m, .int x1] : List Value) = av at hts ⊢
  have SS : CallFix p m c cX5_smallest 3 s av.toArray wsX5_smallest RX5 := ⟨hx, hb, hml, hown, hts⟩
  have hinX5 : ∀ w ∈ u_ws RX5 TX5 6, w ∈ wsX5_smallest := by decide +kernel
  have lk27 := hts (.fieldLink RX5 27 "SignatureChanger$Methods" "count" "I") (List.mem_of_getElem? (i := 1) rfl)
  have cw39 : va_CN rmX5_smallest s av.toArray RX5 39 yX8_contains RX8 cX8_contains 2 (some .boolean) wsX8_contains rmX8_contains 0 0 2 ∧ (Cond.static yX8_contains).before av.toArray s = true ∧ True := ⟨va_cnB 2 hts gX5_smallest_X8_contains_n39 rfl rfl rfl (hKK.2.at 9 rfl) (hts (.initialized RX8) (List.mem_of_getElem? (i := 3) rfl)) (by decide +kernel) ⟨Nat.le_of_ble_eq_true rfl, Nat.le_of_ble_eq_true rfl⟩, hts (.static yX8_contains) (List.mem_of_getElem? (i := 2) rfl), trivial⟩
  have F2 : ∀ (n : Nat) (y1 : Int32) (y2 : Int32), lX5_smallest_2 m_count n y1 y2 = some r → ∀ ls : Array Slot, lv_has ls 3 [(0, .ref a_m), (1, .int y1), (2, .int y2)] → WP p l e rmX5_smallest s m av below meth c r 2 ls [] := by
    intro n
    induction n with
    | zero => intro y1 y2 h; exact no_some h
    | succ n ih =>
      intro y1 y2 h ls hl
      rw [lX5_smallest_2_s] at h
      refine lv_iload_n hx hb dX5_smallest_2 rfl (lv_at hl 2 rfl) ?_
      refine lv_aload_n hx hb dX5_smallest_3 rfl (lv_at hl 0 rfl) ?_
      refine va_get (D := D) (ci := 5) (v := .int m_count) (C := RX5) (T := TX5) (N := 6) hx hb hts hinX5 hown hKK.1 hP 0 rfl rfl 0 (by decide) lk27 (fun _ h9 => h9) rfl dX5_smallest_4 ?_
      refine lv_icmp_ge (tgt := 26) hx hb dX5_smallest_7 (by decide) (fun c1 => ?_) (fun c1 => ?_)
      · have h := ifp h c1
        refine lv_bipush (v := (-9)) hx hb dX5_smallest_26 (by decide) ?_
        exact kRet hx hb hr hlk (Option.some.inj h) dX5_smallest_28
      · have h := ifn h c1
        refine lv_iload_n hx hb dX5_smallest_10 rfl (lv_at hl 1 rfl) ?_
        refine lv_iload_n hx hb dX5_smallest_11 rfl (lv_at hl 2 rfl) ?_
        obtain ⟨v2, ev2, h⟩ := bn_some h
        refine kSN (As := [.int y1, .int y2]) (rest := []) SS hKK (qX8_contains l D cI cM y1 y2 v2 ev2) cw39 va_P_nil rfl hl.1 rfl (Nat.le_of_ble_eq_true rfl) dX5_smallest_12 ⟨Nat.zero_le _, Nat.zero_le _⟩ ?_
        refine lv_if_eq (tgt := 20) hx hb dX5_smallest_15 (by decide) (fun c3 => ?_) (fun c3 => ?_)
        · have h := ifp h c3
          refine lv_iinc (v := y2 + 1) (lv' := [(2, .int (y2 + 1)), (0, .ref a_m), (1, .int y1)]) hx hb dX5_smallest_20 hl (k := 2) rfl rfl (by decide) rfl (fun ls hl => ?_)
          refine lv_goto (tgt := 2) hx hb dX5_smallest_23 (by decide) ?_
          exact ih y1 (y2 + 1) h ls (lv_sub (l' := [(0, .ref a_m), (1, .int y1), (2, .int (y2 + 1))]) hl [1, 2, 0] rfl)
        · have h := ifn h c3
          refine lv_iload_n hx hb dX5_smallest_18 rfl (lv_at hl 2 rfl) ?_
          exact kRet hx hb hr hlk (Option.some.inj h) dX5_smallest_19
  unfold fX5_smallest at h
  refine lv_iconst (v := 0) hx hb dX5_smallest_0 (by decide) ?_
  refine lv_istore_n (lv' := [(2, .int 0), (0, .ref a_m), (1, .int x1)]) hx hb dX5_smallest_1 rfl hl (by decide) rfl (fun ls hl => ?_)
  exact F2 5000 x1 0 h ls (lv_sub (l' := [(0, .ref a_m), (1, .int x1), (2, .int 0)]) hl [1, 2, 0] rfl)
set_option maxHeartbeats 8000000 in
set_option maxRecDepth 100000 in
theorem qX5_declaredBy (l : Launch) (D : va_G) (cI cM : ClassId) (a_m a_m_type a_m_name a_m_arity a_m_keys a_m_defaults : Nat) (m_count : Int32) (m_type : Nat → Int32) (m_name : Nat → Int32) (m_arity : Nat → Int32) (m_keys : Nat → Int32) (m_defaults : Nat → Int32) (x1 : Int32) (x2 : Int32) (x3 : Int32) (r : Int32) (h : fX5_declaredBy m_count m_type m_name m_arity x1 x2 x3 = some r) : PM l yX5_declaredBy wsX5_declaredBy rmX5_declaredBy D cI cM [.ref a_m, .int x1, .int x2, .int x3] (W_m cI cM a_m a_m_type a_m_name a_m_arity a_m_keys a_m_defaults m_count m_type m_name m_arity m_keys m_defaults) r := by
  refine PM.of (cc := cX5_declaredBy) (maxL := 4) (ret := (some .int)) (by decide) rfl (Nat.le_of_ble_eq_true rfl) ?_
  intro p e s m below meth c ls hx hb hr hml hown hts hlk hP hKK hl
  have hown : s.vm.findClass RX5 = some m.cls := hown
  have hl : lv_has ls 4 [(0, .ref a_m), (1, .int x1), (2, .int x2), (3, .int x3)] := hl
  generalize hav : ([.ref a_m, .int x1, .int x2, .int x3] : List Value) = av at hts ⊢
  have SS : CallFix p m c cX5_declaredBy 4 s av.toArray wsX5_declaredBy RX5 := ⟨hx, hb, hml, hown, hts⟩
  have cw35 : va_CN rmX5_declaredBy s av.toArray RX5 35 yX8_bit RX8 cX8_bit 1 (some .int) wsX8_bit rmX8_bit 0 0 1 ∧ (Cond.static yX8_bit).before av.toArray s = true ∧ True := ⟨va_cnB 1 hts gX5_declaredBy_X8_bit_n35 rfl rfl rfl (hKK.2.at 10 rfl) (hts (.initialized RX8) (List.mem_of_getElem? (i := 2) rfl)) (by decide +kernel) ⟨Nat.le_of_ble_eq_true rfl, Nat.le_of_ble_eq_true rfl⟩, hts (.static yX8_bit) (List.mem_of_getElem? (i := 1) rfl), trivial⟩
  have cw43 : CallW rmX5_declaredBy s av.toArray RX5 RX5 43 yX5_withSignature cX5_withSignature 7 (some .int) wsX5_withSignature rmX5_withSignature 0 0 3 := cwV 3 hts gX5_declaredBy_X5_withSignature rfl rfl rfl (by decide +kernel) ⟨Nat.le_of_ble_eq_true rfl, Nat.le_of_ble_eq_true rfl⟩
  have cw47 : CallW rmX5_declaredBy s av.toArray RX5 RX5 47 yX5_smallest cX5_smallest 3 (some .int) wsX5_smallest rmX5_smallest 0 0 1 := cwV 1 hts gX5_declaredBy_X5_smallest rfl rfl rfl (by decide +kernel) ⟨Nat.le_of_ble_eq_true rfl, Nat.le_of_ble_eq_true rfl⟩
  unfold fX5_declaredBy at h
  refine lv_aload_n hx hb dX5_declaredBy_0 rfl (lv_at hl 0 rfl) ?_
  refine lv_aload_n hx hb dX5_declaredBy_1 rfl (lv_at hl 0 rfl) ?_
  refine lv_iload_n hx hb dX5_declaredBy_2 rfl (lv_at hl 2 rfl) ?_
  refine lv_iload_n hx hb dX5_declaredBy_3 rfl (lv_at hl 3 rfl) ?_
  refine lv_iload_n hx hb dX5_declaredBy_4 rfl (lv_at hl 1 rfl) ?_
  obtain ⟨v1, ev1, h⟩ := bn_some h
  refine kSN (As := [.int x1]) (rest := [.int x3, .int x2, .ref a_m, .ref a_m]) SS hKK (qX8_bit l D cI cM x1 v1 ev1) cw35 va_P_nil rfl hl.1 rfl (Nat.le_of_ble_eq_true rfl) dX5_declaredBy_5 ⟨Nat.zero_le _, Nat.zero_le _⟩ ?_
  obtain ⟨v2, ev2, h⟩ := bn_some h
  have hs3 : va_P D vwCl (W_m cI cM a_m a_m_type a_m_name a_m_arity a_m_keys a_m_defaults m_count m_type m_name m_arity m_keys m_defaults) _ := hP.sub (ws' := W_m cI cM a_m a_m_type a_m_name a_m_arity a_m_keys a_m_defaults m_count m_type m_name m_arity m_keys m_defaults) [0, 1, 2, 3, 4, 5] rfl
  refine kV (As := [.int x2, .int x3, .int v1]) (rest := [.ref a_m]) SS hKK (qX5_withSignature l D cI cM a_m a_m_type a_m_name a_m_arity a_m_keys a_m_defaults m_count m_type m_name m_arity m_keys m_defaults x2 x3 v1 v2 ev2) cw43 hs3 0 5 rfl rfl rfl hl.1 rfl (Nat.le_of_ble_eq_true rfl) dX5_declaredBy_8 ⟨Nat.zero_le _, Nat.zero_le _⟩ ?_
  obtain ⟨v4, ev4, h⟩ := bn_some h
  refine kV (As := [.int v2]) (rest := []) SS hKK (qX5_smallest l D cI cM a_m a_m_type a_m_name a_m_arity a_m_keys a_m_defaults m_count m_type m_name m_arity m_keys m_defaults v2 v4 ev4) cw47 hs3 0 5 rfl rfl rfl hl.1 rfl (Nat.le_of_ble_eq_true rfl) dX5_declaredBy_11 ⟨Nat.zero_le _, Nat.zero_le _⟩ ?_
  exact kRet hx hb hr hlk (Option.some.inj h) dX5_declaredBy_14
set_option maxHeartbeats 8000000 in
set_option maxRecDepth 100000 in
theorem qX5_typesOf (l : Launch) (D : va_G) (cI cM : ClassId) (a_m a_m_type a_m_name a_m_arity a_m_keys a_m_defaults : Nat) (m_count : Int32) (m_type : Nat → Int32) (m_name : Nat → Int32) (m_arity : Nat → Int32) (m_keys : Nat → Int32) (m_defaults : Nat → Int32) (x1 : Int32) (r : Int32) (h : fX5_typesOf m_count m_type x1 = some r) : PM l yX5_typesOf wsX5_typesOf rmX5_typesOf D cI cM [.ref a_m, .int x1] (W_m cI cM a_m a_m_type a_m_name a_m_arity a_m_keys a_m_defaults m_count m_type m_name m_arity m_keys m_defaults) r := by
  refine PM.of (cc := cX5_typesOf) (maxL := 4) (ret := (some .int)) (by decide) rfl (Nat.le_of_ble_eq_true rfl) ?_
  intro p e s m below meth c ls hx hb hr hml hown hts hlk hP hKK hl
  have hown : s.vm.findClass RX5 = some m.cls := hown
  have hl : lv_has ls 4 [(0, .ref a_m), (1, .int x1)] := hl
  generalize hav : ([.ref a_m, .int x1] : List Value) = av at hts ⊢
  have SS : CallFix p m c cX5_typesOf 4 s av.toArray wsX5_typesOf RX5 := ⟨hx, hb, hml, hown, hts⟩
  have hinX5 : ∀ w ∈ u_ws RX5 TX5 6, w ∈ wsX5_typesOf := by decide +kernel
  have lk9 := hts (.fieldLink RX5 9 "SignatureChanger$Methods" "type" "[I") (List.mem_of_getElem? (i := 2) rfl)
  have lk27 := hts (.fieldLink RX5 27 "SignatureChanger$Methods" "count" "I") (List.mem_of_getElem? (i := 1) rfl)
  have cw35 : va_CN rmX5_typesOf s av.toArray RX5 35 yX8_bit RX8 cX8_bit 1 (some .int) wsX8_bit rmX8_bit 0 0 1 ∧ (Cond.static yX8_bit).before av.toArray s = true ∧ True := ⟨va_cnB 1 hts gX5_typesOf_X8_bit_n35 rfl rfl rfl (hKK.2.at 10 rfl) (hts (.initialized RX8) (List.mem_of_getElem? (i := 4) rfl)) (by decide +kernel) ⟨Nat.le_of_ble_eq_true rfl, Nat.le_of_ble_eq_true rfl⟩, hts (.static yX8_bit) (List.mem_of_getElem? (i := 6) rfl), trivial⟩
  have cw39 : va_CN rmX5_typesOf s av.toArray RX5 39 yX8_contains RX8 cX8_contains 2 (some .boolean) wsX8_contains rmX8_contains 0 0 2 ∧ (Cond.static yX8_contains).before av.toArray s = true ∧ True := ⟨va_cnB 2 hts gX5_typesOf_X8_contains_n39 rfl rfl rfl (hKK.2.at 9 rfl) (hts (.initialized RX8) (List.mem_of_getElem? (i := 4) rfl)) (by decide +kernel) ⟨Nat.le_of_ble_eq_true rfl, Nat.le_of_ble_eq_true rfl⟩, hts (.static yX8_contains) (List.mem_of_getElem? (i := 3) rfl), trivial⟩
  have F4 : ∀ (n : Nat) (y1 : Int32) (y2 : Int32) (y3 : Int32), lX5_typesOf_4 m_count m_type n y1 y2 y3 = some r → ∀ ls : Array Slot, lv_has ls 4 [(0, .ref a_m), (1, .int y1), (2, .int y2), (3, .int y3)] → WP p l e rmX5_typesOf s m av below meth c r 4 ls [] := by
    intro n
    induction n with
    | zero => intro y1 y2 y3 h; exact no_some h
    | succ n ih =>
      intro y1 y2 y3 h ls hl
      rw [lX5_typesOf_4_s] at h
      refine lv_iload_n hx hb dX5_typesOf_4 rfl (lv_at hl 3 rfl) ?_
      refine lv_aload_n hx hb dX5_typesOf_5 rfl (lv_at hl 0 rfl) ?_
      refine va_get (D := D) (ci := 5) (v := .int m_count) (C := RX5) (T := TX5) (N := 6) hx hb hts hinX5 hown hKK.1 hP 0 rfl rfl 0 (by decide) lk27 (fun _ h9 => h9) rfl dX5_typesOf_6 ?_
      refine lv_icmp_ge (tgt := 38) hx hb dX5_typesOf_9 (by decide) (fun c1 => ?_) (fun c1 => ?_)
      · have h := ifp h c1
        refine lv_iload_n hx hb dX5_typesOf_38 rfl (lv_at hl 2 rfl) ?_
        exact kRet hx hb hr hlk (Option.some.inj h) dX5_typesOf_39
      · have h := ifn h c1
        refine lv_iload_n hx hb dX5_typesOf_12 rfl (lv_at hl 1 rfl) ?_
        refine lv_iload_n hx hb dX5_typesOf_13 rfl (lv_at hl 3 rfl) ?_
        obtain ⟨v2, ev2, h⟩ := bn_some h
        refine kSN (As := [.int y1, .int y3]) (rest := []) SS hKK (qX8_contains l D cI cM y1 y3 v2 ev2) cw39 va_P_nil rfl hl.1 rfl (Nat.le_of_ble_eq_true rfl) dX5_typesOf_14 ⟨Nat.zero_le _, Nat.zero_le _⟩ ?_
        refine lv_if_eq (tgt := 32) hx hb dX5_typesOf_17 (by decide) (fun c3 => ?_) (fun c3 => ?_)
        · have h := ifp h c3
          refine lv_iinc (v := y3 + 1) (lv' := [(3, .int (y3 + 1)), (0, .ref a_m), (1, .int y1), (2, .int y2)]) hx hb dX5_typesOf_32 hl (k := 3) rfl rfl (by decide) rfl (fun ls hl => ?_)
          refine lv_goto (tgt := 4) hx hb dX5_typesOf_35 (by decide) ?_
          exact ih y1 y2 (y3 + 1) h ls (lv_sub (l' := [(0, .ref a_m), (1, .int y1), (2, .int y2), (3, .int (y3 + 1))]) hl [1, 2, 3, 0] rfl)
        · have h := ifn h c3
          refine lv_iload_n hx hb dX5_typesOf_20 rfl (lv_at hl 2 rfl) ?_
          refine lv_aload_n hx hb dX5_typesOf_21 rfl (lv_at hl 0 rfl) ?_
          refine va_get (D := D) (ci := 5) (v := .ref a_m_type) (C := RX5) (T := TX5) (N := 6) hx hb hts hinX5 hown hKK.1 hP 0 rfl rfl 1 (by decide) lk9 (fun _ h9 => h9) rfl dX5_typesOf_22 ?_
          refine lv_iload_n hx hb dX5_typesOf_25 rfl (lv_at hl 3 rfl) ?_
          obtain ⟨v4, iv4, ev4, h⟩ := rd_some h
          refine kAld hx hb hKK hP 1 rfl iv4 ev4 dX5_typesOf_26 ?_
          obtain ⟨v5, ev5, h⟩ := bn_some h
          refine kSN (As := [.int v4]) (rest := [.int y2]) SS hKK (qX8_bit l D cI cM v4 v5 ev5) cw35 va_P_nil rfl hl.1 rfl (Nat.le_of_ble_eq_true rfl) dX5_typesOf_27 ⟨Nat.zero_le _, Nat.zero_le _⟩ ?_
          refine lv_ior hx hb dX5_typesOf_30 ?_
          refine lv_istore_n (lv' := [(2, .int (y2 ||| v5)), (0, .ref a_m), (1, .int y1), (3, .int y3)]) hx hb dX5_typesOf_31 rfl hl (by decide) rfl (fun ls hl => ?_)
          refine lv_iinc (v := y3 + 1) (lv' := [(3, .int (y3 + 1)), (2, .int (y2 ||| v5)), (0, .ref a_m), (1, .int y1)]) hx hb dX5_typesOf_32 hl (k := 3) rfl rfl (by decide) rfl (fun ls hl => ?_)
          refine lv_goto (tgt := 4) hx hb dX5_typesOf_35 (by decide) ?_
          exact ih y1 (y2 ||| v5) (y3 + 1) h ls (lv_sub (l' := [(0, .ref a_m), (1, .int y1), (2, .int (y2 ||| v5)), (3, .int (y3 + 1))]) hl [2, 3, 1, 0] rfl)
  unfold fX5_typesOf at h
  refine lv_iconst (v := 0) hx hb dX5_typesOf_0 (by decide) ?_
  refine lv_istore_n (lv' := [(2, .int 0), (0, .ref a_m), (1, .int x1)]) hx hb dX5_typesOf_1 rfl hl (by decide) rfl (fun ls hl => ?_)
  refine lv_iconst (v := 0) hx hb dX5_typesOf_2 (by decide) ?_
  refine lv_istore_n (lv' := [(3, .int 0), (2, .int 0), (0, .ref a_m), (1, .int x1)]) hx hb dX5_typesOf_3 rfl hl (by decide) rfl (fun ls hl => ?_)
  exact F4 5000 x1 0 0 h ls (lv_sub (l' := [(0, .ref a_m), (1, .int x1), (2, .int 0), (3, .int 0)]) hl [2, 3, 1, 0] rfl)
set_option maxHeartbeats 8000000 in
set_option maxRecDepth 100000 in
theorem qX5_sameParameters (l : Launch) (D : va_G) (cI cM : ClassId) (a_m a_m_type a_m_name a_m_arity a_m_keys a_m_defaults : Nat) (m_count : Int32) (m_type : Nat → Int32) (m_name : Nat → Int32) (m_arity : Nat → Int32) (m_keys : Nat → Int32) (m_defaults : Nat → Int32) (x1 : Int32) (x2 : Int32) (r : Int32) (h : fX5_sameParameters m_arity m_keys m_defaults x1 x2 = some r) : PM l yX5_sameParameters wsX5_sameParameters rmX5_sameParameters D cI cM [.ref a_m, .int x1, .int x2] (W_m cI cM a_m a_m_type a_m_name a_m_arity a_m_keys a_m_defaults m_count m_type m_name m_arity m_keys m_defaults) r := by
  refine PM.of (cc := cX5_sameParameters) (maxL := 5) (ret := (some .boolean)) (by decide) rfl (Nat.le_of_ble_eq_true rfl) ?_
  intro p e s m below meth c ls hx hb hr hml hown hts hlk hP hKK hl
  have hown : s.vm.findClass RX5 = some m.cls := hown
  have hl : lv_has ls 5 [(0, .ref a_m), (1, .int x1), (2, .int x2)] := hl
  generalize hav : ([.ref a_m, .int x1, .int x2] : List Value) = av at hts ⊢
  have SS : CallFix p m c cX5_sameParameters 5 s av.toArray wsX5_sameParameters RX5 := ⟨hx, hb, hml, hown, hts⟩
  have hinX5 : ∀ w ∈ u_ws RX5 TX5 6, w ∈ wsX5_sameParameters := by decide +kernel
  have lk18 := hts (.fieldLink RX5 18 "SignatureChanger$Methods" "arity" "[I") (List.mem_of_getElem? (i := 1) rfl)
  have cw31 : CallW rmX5_sameParameters s av.toArray RX5 RX5 31 yX5_keyOf cX5_keyOf 3 (some .int) wsX5_keyOf rmX5_keyOf 0 0 2 := cwV 2 hts gX5_sameParameters_X5_keyOf rfl rfl rfl (by decide +kernel) ⟨Nat.le_of_ble_eq_true rfl, Nat.le_of_ble_eq_true rfl⟩
  have cw50 : CallW rmX5_sameParameters s av.toArray RX5 RX5 50 yX5_defaultOf cX5_defaultOf 3 (some .int) wsX5_defaultOf rmX5_defaultOf 0 0 2 := cwV 2 hts gX5_sameParameters_X5_defaultOf rfl rfl rfl (by decide +kernel) ⟨Nat.le_of_ble_eq_true rfl, Nat.le_of_ble_eq_true rfl⟩
  have F32 : ∀ (k2 : Int32 → Int32 → Int32 → Option (Int32)) (hk2 : ∀ (u1 : Int32) (u2 : Int32) (u3 : Int32), k2 u1 u2 u3 = some r → ∀ ls : Array Slot, lv_has ls 5 [(0, .ref a_m), (1, .int u1), (2, .int u2), (3, .int u3)] → WP p l e rmX5_sameParameters s m av below meth c r 2 ls []), ∀ (y1 : Int32) (y2 : Int32) (y3 : Int32) (s0 : Int32), jX5_sameParameters_32 m_arity m_keys m_defaults k2 y1 y2 y3 s0 = some r → ∀ ls : Array Slot, lv_has ls 5 [(0, .ref a_m), (1, .int y1), (2, .int y2), (3, .int y3)] → WP p l e rmX5_sameParameters s m av below meth c r 32 ls [.int s0] := by
    intro k2 hk2
    intro y1 y2 y3 s0 h ls hl
    unfold jX5_sameParameters_32 at h
    refine lv_istore (lv' := [(4, .int s0), (0, .ref a_m), (1, .int y1), (2, .int y2), (3, .int y3)]) hx hb dX5_sameParameters_32 hl (by decide) rfl (fun ls hl => ?_)
    refine lv_iload hx hb dX5_sameParameters_34 (lv_at hl 0 rfl) ?_
    refine lv_if_eq (tgt := 54) hx hb dX5_sameParameters_36 (by decide) (fun c1 => ?_) (fun c1 => ?_)
    · have h := ifp h c1
      refine lv_iconst (v := 0) hx hb dX5_sameParameters_54 (by decide) ?_
      exact kRetZ hx hb hr hlk rfl (Option.some.inj h) dX5_sameParameters_55
    · have h := ifn h c1
      refine lv_aload_n hx hb dX5_sameParameters_39 rfl (lv_at hl 1 rfl) ?_
      refine lv_iload_n hx hb dX5_sameParameters_40 rfl (lv_at hl 2 rfl) ?_
      refine lv_iload_n hx hb dX5_sameParameters_41 rfl (lv_at hl 4 rfl) ?_
      obtain ⟨v2, ev2, h⟩ := bn_some h
      have hs3 : va_P D vwCl (W_m cI cM a_m a_m_type a_m_name a_m_arity a_m_keys a_m_defaults m_count m_type m_name m_arity m_keys m_defaults) _ := hP.sub (ws' := W_m cI cM a_m a_m_type a_m_name a_m_arity a_m_keys a_m_defaults m_count m_type m_name m_arity m_keys m_defaults) [0, 1, 2, 3, 4, 5] rfl
      refine kV (As := [.int y1, .int y3]) (rest := []) SS hKK (qX5_defaultOf l D cI cM a_m a_m_type a_m_name a_m_arity a_m_keys a_m_defaults m_count m_type m_name m_arity m_keys m_defaults y1 y3 v2 ev2) cw50 hs3 0 5 rfl rfl rfl hl.1 rfl (Nat.le_of_ble_eq_true rfl) dX5_sameParameters_42 ⟨Nat.zero_le _, Nat.zero_le _⟩ ?_
      refine lv_aload_n hx hb dX5_sameParameters_45 rfl (lv_at hl 1 rfl) ?_
      refine lv_iload_n hx hb dX5_sameParameters_46 rfl (lv_at hl 3 rfl) ?_
      refine lv_iload_n hx hb dX5_sameParameters_47 rfl (lv_at hl 4 rfl) ?_
      obtain ⟨v4, ev4, h⟩ := bn_some h
      refine kV (As := [.int y2, .int y3]) (rest := [.int v2]) SS hKK (qX5_defaultOf l D cI cM a_m a_m_type a_m_name a_m_arity a_m_keys a_m_defaults m_count m_type m_name m_arity m_keys m_defaults y2 y3 v4 ev4) cw50 hs3 0 5 rfl rfl rfl hl.1 rfl (Nat.le_of_ble_eq_true rfl) dX5_sameParameters_48 ⟨Nat.zero_le _, Nat.zero_le _⟩ ?_
      refine lv_icmp_eq (tgt := 56) hx hb dX5_sameParameters_51 (by decide) (fun c5 => ?_) (fun c5 => ?_)
      · have h := ifp h c5
        refine lv_iinc (v := y3 + 1) (lv' := [(3, .int (y3 + 1)), (4, .int s0), (0, .ref a_m), (1, .int y1), (2, .int y2)]) hx hb dX5_sameParameters_56 hl (k := 4) rfl rfl (by decide) rfl (fun ls hl => ?_)
        refine lv_goto (tgt := 2) hx hb dX5_sameParameters_59 (by decide) ?_
        exact hk2 y1 y2 (y3 + 1) h ls (lv_sub (l' := [(0, .ref a_m), (1, .int y1), (2, .int y2), (3, .int (y3 + 1))]) hl [2, 3, 4, 0] rfl)
      · have h := ifn h c5
        refine lv_iconst (v := 0) hx hb dX5_sameParameters_54 (by decide) ?_
        exact kRetZ hx hb hr hlk rfl (Option.some.inj h) dX5_sameParameters_55
  have F2 : ∀ (n : Nat) (y1 : Int32) (y2 : Int32) (y3 : Int32), lX5_sameParameters_2 m_arity m_keys m_defaults n y1 y2 y3 = some r → ∀ ls : Array Slot, lv_has ls 5 [(0, .ref a_m), (1, .int y1), (2, .int y2), (3, .int y3)] → WP p l e rmX5_sameParameters s m av below meth c r 2 ls [] := by
    intro n
    induction n with
    | zero => intro y1 y2 y3 h; exact no_some h
    | succ n ih =>
      intro y1 y2 y3 h ls hl
      rw [lX5_sameParameters_2_s] at h
      refine lv_iload_n hx hb dX5_sameParameters_2 rfl (lv_at hl 3 rfl) ?_
      refine lv_aload_n hx hb dX5_sameParameters_3 rfl (lv_at hl 0 rfl) ?_
      refine va_get (D := D) (ci := 5) (v := .ref a_m_arity) (C := RX5) (T := TX5) (N := 6) hx hb hts hinX5 hown hKK.1 hP 0 rfl rfl 3 (by decide) lk18 (fun _ h9 => h9) rfl dX5_sameParameters_4 ?_
      refine lv_iload_n hx hb dX5_sameParameters_7 rfl (lv_at hl 1 rfl) ?_
      obtain ⟨v1, iv1, ev1, h⟩ := rd_some h
      refine kAld hx hb hKK hP 3 rfl iv1 ev1 dX5_sameParameters_8 ?_
      refine lv_icmp_ge (tgt := 62) hx hb dX5_sameParameters_9 (by decide) (fun c2 => ?_) (fun c2 => ?_)
      · have h := ifp h c2
        refine lv_iconst (v := 1) hx hb dX5_sameParameters_62 (by decide) ?_
        exact kRetZ hx hb hr hlk rfl (Option.some.inj h) dX5_sameParameters_63
      · have h := ifn h c2
        refine lv_aload_n hx hb dX5_sameParameters_12 rfl (lv_at hl 0 rfl) ?_
        refine lv_iload_n hx hb dX5_sameParameters_13 rfl (lv_at hl 1 rfl) ?_
        refine lv_iload_n hx hb dX5_sameParameters_14 rfl (lv_at hl 3 rfl) ?_
        obtain ⟨v3, ev3, h⟩ := bn_some h
        have hs4 : va_P D vwCl (W_m cI cM a_m a_m_type a_m_name a_m_arity a_m_keys a_m_defaults m_count m_type m_name m_arity m_keys m_defaults) _ := hP.sub (ws' := W_m cI cM a_m a_m_type a_m_name a_m_arity a_m_keys a_m_defaults m_count m_type m_name m_arity m_keys m_defaults) [0, 1, 2, 3, 4, 5] rfl
        refine kV (As := [.int y1, .int y3]) (rest := []) SS hKK (qX5_keyOf l D cI cM a_m a_m_type a_m_name a_m_arity a_m_keys a_m_defaults m_count m_type m_name m_arity m_keys m_defaults y1 y3 v3 ev3) cw31 hs4 0 5 rfl rfl rfl hl.1 rfl (Nat.le_of_ble_eq_true rfl) dX5_sameParameters_15 ⟨Nat.zero_le _, Nat.zero_le _⟩ ?_
        refine lv_aload_n hx hb dX5_sameParameters_18 rfl (lv_at hl 0 rfl) ?_
        refine lv_iload_n hx hb dX5_sameParameters_19 rfl (lv_at hl 2 rfl) ?_
        refine lv_iload_n hx hb dX5_sameParameters_20 rfl (lv_at hl 3 rfl) ?_
        obtain ⟨v5, ev5, h⟩ := bn_some h
        refine kV (As := [.int y2, .int y3]) (rest := [.int v3]) SS hKK (qX5_keyOf l D cI cM a_m a_m_type a_m_name a_m_arity a_m_keys a_m_defaults m_count m_type m_name m_arity m_keys m_defaults y2 y3 v5 ev5) cw31 hs4 0 5 rfl rfl rfl hl.1 rfl (Nat.le_of_ble_eq_true rfl) dX5_sameParameters_21 ⟨Nat.zero_le _, Nat.zero_le _⟩ ?_
        refine lv_icmp_ne (tgt := 31) hx hb dX5_sameParameters_24 (by decide) (fun c6 => ?_) (fun c6 => ?_)
        · have h := ifn h c6
          refine lv_iconst (v := 0) hx hb dX5_sameParameters_31 (by decide) ?_
          exact F32 (fun u1 u2 u3 => lX5_sameParameters_2 m_arity m_keys m_defaults n u1 u2 u3) (fun u1 u2 u3 h ls hl => ih u1 u2 u3 h ls hl) y1 y2 y3 0 h ls (lv_sub (l' := [(0, .ref a_m), (1, .int y1), (2, .int y2), (3, .int y3)]) hl [0, 1, 2, 3] rfl)
        · have h := ifp h c6
          refine lv_iconst (v := 1) hx hb dX5_sameParameters_27 (by decide) ?_
          refine lv_goto (tgt := 32) hx hb dX5_sameParameters_28 (by decide) ?_
          exact F32 (fun u1 u2 u3 => lX5_sameParameters_2 m_arity m_keys m_defaults n u1 u2 u3) (fun u1 u2 u3 h ls hl => ih u1 u2 u3 h ls hl) y1 y2 y3 1 h ls (lv_sub (l' := [(0, .ref a_m), (1, .int y1), (2, .int y2), (3, .int y3)]) hl [0, 1, 2, 3] rfl)
  unfold fX5_sameParameters at h
  refine lv_iconst (v := 0) hx hb dX5_sameParameters_0 (by decide) ?_
  refine lv_istore_n (lv' := [(3, .int 0), (0, .ref a_m), (1, .int x1), (2, .int x2)]) hx hb dX5_sameParameters_1 rfl hl (by decide) rfl (fun ls hl => ?_)
  exact F2 5000 x1 x2 0 h ls (lv_sub (l' := [(0, .ref a_m), (1, .int x1), (2, .int x2), (3, .int 0)]) hl [1, 2, 3, 0] rfl)
set_option maxHeartbeats 8000000 in
set_option maxRecDepth 100000 in
theorem qX5_agree (l : Launch) (D : va_G) (cI cM : ClassId) (a_m a_m_type a_m_name a_m_arity a_m_keys a_m_defaults : Nat) (m_count : Int32) (m_type : Nat → Int32) (m_name : Nat → Int32) (m_arity : Nat → Int32) (m_keys : Nat → Int32) (m_defaults : Nat → Int32) (x1 : Int32) (r : Int32) (h : fX5_agree m_count m_arity m_keys m_defaults x1 = some r) : PM l yX5_agree wsX5_agree rmX5_agree D cI cM [.ref a_m, .int x1] (W_m cI cM a_m a_m_type a_m_name a_m_arity a_m_keys a_m_defaults m_count m_type m_name m_arity m_keys m_defaults) r := by
  refine PM.of (cc := cX5_agree) (maxL := 4) (ret := (some .boolean)) (by decide) rfl (Nat.le_of_ble_eq_true rfl) ?_
  intro p e s m below meth c ls hx hb hr hml hown hts hlk hP hKK hl
  have hown : s.vm.findClass RX5 = some m.cls := hown
  have hl : lv_has ls 4 [(0, .ref a_m), (1, .int x1)] := hl
  generalize hav : ([.ref a_m, .int x1] : List Value) = av at hts ⊢
  have SS : CallFix p m c cX5_agree 4 s av.toArray wsX5_agree RX5 := ⟨hx, hb, hml, hown, hts⟩
  have hinX5 : ∀ w ∈ u_ws RX5 TX5 6, w ∈ wsX5_agree := by decide +kernel
  have lk27 := hts (.fieldLink RX5 27 "SignatureChanger$Methods" "count" "I") (List.mem_of_getElem? (i := 1) rfl)
  have cw39 : va_CN rmX5_agree s av.toArray RX5 39 yX8_contains RX8 cX8_contains 2 (some .boolean) wsX8_contains rmX8_contains 0 0 2 ∧ (Cond.static yX8_contains).before av.toArray s = true ∧ True := ⟨va_cnB 2 hts gX5_agree_X8_contains_n39 rfl rfl rfl (hKK.2.at 9 rfl) (hts (.initialized RX8) (List.mem_of_getElem? (i := 8) rfl)) (by decide +kernel) ⟨Nat.le_of_ble_eq_true rfl, Nat.le_of_ble_eq_true rfl⟩, hts (.static yX8_contains) (List.mem_of_getElem? (i := 7) rfl), trivial⟩
  have cw47 : CallW rmX5_agree s av.toArray RX5 RX5 47 yX5_smallest cX5_smallest 3 (some .int) wsX5_smallest rmX5_smallest 0 0 1 := cwV 1 hts gX5_agree_X5_smallest rfl rfl rfl (by decide +kernel) ⟨Nat.le_of_ble_eq_true rfl, Nat.le_of_ble_eq_true rfl⟩
  have cw53 : CallW rmX5_agree s av.toArray RX5 RX5 53 yX5_sameParameters cX5_sameParameters 5 (some .boolean) wsX5_sameParameters rmX5_sameParameters 0 0 2 := cwV 2 hts gX5_agree_X5_sameParameters rfl rfl rfl (by decide +kernel) ⟨Nat.le_of_ble_eq_true rfl, Nat.le_of_ble_eq_true rfl⟩
  have F18 : ∀ (n : Nat) (y1 : Int32) (y2 : Int32) (y3 : Int32), lX5_agree_18 m_count m_arity m_keys m_defaults n y1 y2 y3 = some r → ∀ ls : Array Slot, lv_has ls 4 [(0, .ref a_m), (1, .int y1), (2, .int y2), (3, .int y3)] → WP p l e rmX5_agree s m av below meth c r 18 ls [] := by
    intro n
    induction n with
    | zero => intro y1 y2 y3 h; exact no_some h
    | succ n ih =>
      intro y1 y2 y3 h ls hl
      rw [lX5_agree_18_s] at h
      refine lv_iload_n hx hb dX5_agree_18 rfl (lv_at hl 3 rfl) ?_
      refine lv_aload_n hx hb dX5_agree_19 rfl (lv_at hl 0 rfl) ?_
      refine va_get (D := D) (ci := 5) (v := .int m_count) (C := RX5) (T := TX5) (N := 6) hx hb hts hinX5 hown hKK.1 hP 0 rfl rfl 0 (by decide) lk27 (fun _ h9 => h9) rfl dX5_agree_20 ?_
      refine lv_icmp_ge (tgt := 51) hx hb dX5_agree_23 (by decide) (fun c1 => ?_) (fun c1 => ?_)
      · have h := ifp h c1
        refine lv_iconst (v := 1) hx hb dX5_agree_51 (by decide) ?_
        exact kRetZ hx hb hr hlk rfl (Option.some.inj h) dX5_agree_52
      · have h := ifn h c1
        refine lv_iload_n hx hb dX5_agree_26 rfl (lv_at hl 1 rfl) ?_
        refine lv_iload_n hx hb dX5_agree_27 rfl (lv_at hl 3 rfl) ?_
        obtain ⟨v2, ev2, h⟩ := bn_some h
        refine kSN (As := [.int y1, .int y3]) (rest := []) SS hKK (qX8_contains l D cI cM y1 y3 v2 ev2) cw39 va_P_nil rfl hl.1 rfl (Nat.le_of_ble_eq_true rfl) dX5_agree_28 ⟨Nat.zero_le _, Nat.zero_le _⟩ ?_
        refine lv_if_eq (tgt := 45) hx hb dX5_agree_31 (by decide) (fun c3 => ?_) (fun c3 => ?_)
        · have h := ifp h c3
          refine lv_iinc (v := y3 + 1) (lv' := [(3, .int (y3 + 1)), (0, .ref a_m), (1, .int y1), (2, .int y2)]) hx hb dX5_agree_45 hl (k := 3) rfl rfl (by decide) rfl (fun ls hl => ?_)
          refine lv_goto (tgt := 18) hx hb dX5_agree_48 (by decide) ?_
          exact ih y1 y2 (y3 + 1) h ls (lv_sub (l' := [(0, .ref a_m), (1, .int y1), (2, .int y2), (3, .int (y3 + 1))]) hl [1, 2, 3, 0] rfl)
        · have h := ifn h c3
          refine lv_aload_n hx hb dX5_agree_34 rfl (lv_at hl 0 rfl) ?_
          refine lv_iload_n hx hb dX5_agree_35 rfl (lv_at hl 2 rfl) ?_
          refine lv_iload_n hx hb dX5_agree_36 rfl (lv_at hl 3 rfl) ?_
          obtain ⟨v4, ev4, h⟩ := bn_some h
          have hs5 : va_P D vwCl (W_m cI cM a_m a_m_type a_m_name a_m_arity a_m_keys a_m_defaults m_count m_type m_name m_arity m_keys m_defaults) _ := hP.sub (ws' := W_m cI cM a_m a_m_type a_m_name a_m_arity a_m_keys a_m_defaults m_count m_type m_name m_arity m_keys m_defaults) [0, 1, 2, 3, 4, 5] rfl
          refine kV (As := [.int y2, .int y3]) (rest := []) SS hKK (qX5_sameParameters l D cI cM a_m a_m_type a_m_name a_m_arity a_m_keys a_m_defaults m_count m_type m_name m_arity m_keys m_defaults y2 y3 v4 ev4) cw53 hs5 0 5 rfl rfl rfl hl.1 rfl (Nat.le_of_ble_eq_true rfl) dX5_agree_37 ⟨Nat.zero_le _, Nat.zero_le _⟩ ?_
          refine lv_if_ne (tgt := 45) hx hb dX5_agree_40 (by decide) (fun c6 => ?_) (fun c6 => ?_)
          · have h := ifn h c6
            refine lv_iinc (v := y3 + 1) (lv' := [(3, .int (y3 + 1)), (0, .ref a_m), (1, .int y1), (2, .int y2)]) hx hb dX5_agree_45 hl (k := 3) rfl rfl (by decide) rfl (fun ls hl => ?_)
            refine lv_goto (tgt := 18) hx hb dX5_agree_48 (by decide) ?_
            exact ih y1 y2 (y3 + 1) h ls (lv_sub (l' := [(0, .ref a_m), (1, .int y1), (2, .int y2), (3, .int (y3 + 1))]) hl [1, 2, 3, 0] rfl)
          · have h := ifp h c6
            refine lv_iconst (v := 0) hx hb dX5_agree_43 (by decide) ?_
            exact kRetZ hx hb hr hlk rfl (Option.some.inj h) dX5_agree_44
  unfold fX5_agree at h
  refine lv_aload_n hx hb dX5_agree_0 rfl (lv_at hl 0 rfl) ?_
  refine lv_iload_n hx hb dX5_agree_1 rfl (lv_at hl 1 rfl) ?_
  obtain ⟨v1, ev1, h⟩ := bn_some h
  have hs2 : va_P D vwCl (W_m cI cM a_m a_m_type a_m_name a_m_arity a_m_keys a_m_defaults m_count m_type m_name m_arity m_keys m_defaults) _ := hP.sub (ws' := W_m cI cM a_m a_m_type a_m_name a_m_arity a_m_keys a_m_defaults m_count m_type m_name m_arity m_keys m_defaults) [0, 1, 2, 3, 4, 5] rfl
  refine kV (As := [.int x1]) (rest := []) SS hKK (qX5_smallest l D cI cM a_m a_m_type a_m_name a_m_arity a_m_keys a_m_defaults m_count m_type m_name m_arity m_keys m_defaults x1 v1 ev1) cw47 hs2 0 5 rfl rfl rfl hl.1 rfl (Nat.le_of_ble_eq_true rfl) dX5_agree_2 ⟨Nat.zero_le _, Nat.zero_le _⟩ ?_
  refine lv_istore_n (lv' := [(2, .int v1), (0, .ref a_m), (1, .int x1)]) hx hb dX5_agree_5 rfl hl (by decide) rfl (fun ls hl => ?_)
  refine lv_iload_n hx hb dX5_agree_6 rfl (lv_at hl 0 rfl) ?_
  refine lv_bipush (v := (-9)) hx hb dX5_agree_7 (by decide) ?_
  refine lv_icmp_ne (tgt := 14) hx hb dX5_agree_9 (by decide) (fun c3 => ?_) (fun c3 => ?_)
  · have h := ifn h c3
    refine lv_iload_n hx hb dX5_agree_14 rfl (lv_at hl 0 rfl) ?_
    refine lv_iconst (v := 1) hx hb dX5_agree_15 (by decide) ?_
    refine lv_iadd hx hb dX5_agree_16 ?_
    refine lv_istore_n (lv' := [(3, .int (v1 + 1)), (2, .int v1), (0, .ref a_m), (1, .int x1)]) hx hb dX5_agree_17 rfl hl (by decide) rfl (fun ls hl => ?_)
    exact F18 5000 x1 v1 (v1 + 1) h ls (lv_sub (l' := [(0, .ref a_m), (1, .int x1), (2, .int v1), (3, .int (v1 + 1))]) hl [2, 3, 1, 0] rfl)
  · have h := ifp h c3
    refine lv_iconst (v := 1) hx hb dX5_agree_12 (by decide) ?_
    exact kRetZ hx hb hr hlk rfl (Option.some.inj h) dX5_agree_13
set_option maxHeartbeats 8000000 in
set_option maxRecDepth 100000 in
theorem qX5_disagreeWithin (l : Launch) (D : va_G) (cI cM : ClassId) (a_m a_m_type a_m_name a_m_arity a_m_keys a_m_defaults : Nat) (m_count : Int32) (m_type : Nat → Int32) (m_name : Nat → Int32) (m_arity : Nat → Int32) (m_keys : Nat → Int32) (m_defaults : Nat → Int32) (x1 : Int32) (r : Int32) (h : fX5_disagreeWithin m_count m_type m_name m_arity m_keys m_defaults x1 = some r) : PM l yX5_disagreeWithin wsX5_disagreeWithin rmX5_disagreeWithin D cI cM [.ref a_m, .int x1] (W_m cI cM a_m a_m_type a_m_name a_m_arity a_m_keys a_m_defaults m_count m_type m_name m_arity m_keys m_defaults) r := by
  refine PM.of (cc := cX5_disagreeWithin) (maxL := 4) (ret := (some .boolean)) (by decide) rfl (Nat.le_of_ble_eq_true rfl) ?_
  intro p e s m below meth c ls hx hb hr hml hown hts hlk hP hKK hl
  have hown : s.vm.findClass RX5 = some m.cls := hown
  have hl : lv_has ls 4 [(0, .ref a_m), (1, .int x1)] := hl
  generalize hav : ([.ref a_m, .int x1] : List Value) = av at hts ⊢
  have SS : CallFix p m c cX5_disagreeWithin 4 s av.toArray wsX5_disagreeWithin RX5 := ⟨hx, hb, hml, hown, hts⟩
  have hinX5 : ∀ w ∈ u_ws RX5 TX5 6, w ∈ wsX5_disagreeWithin := by decide +kernel
  have lk9 := hts (.fieldLink RX5 9 "SignatureChanger$Methods" "type" "[I") (List.mem_of_getElem? (i := 2) rfl)
  have lk15 := hts (.fieldLink RX5 15 "SignatureChanger$Methods" "name" "[I") (List.mem_of_getElem? (i := 3) rfl)
  have lk18 := hts (.fieldLink RX5 18 "SignatureChanger$Methods" "arity" "[I") (List.mem_of_getElem? (i := 4) rfl)
  have lk27 := hts (.fieldLink RX5 27 "SignatureChanger$Methods" "count" "I") (List.mem_of_getElem? (i := 1) rfl)
  have cw39 : va_CN rmX5_disagreeWithin s av.toArray RX5 39 yX8_contains RX8 cX8_contains 2 (some .boolean) wsX8_contains rmX8_contains 0 0 2 ∧ (Cond.static yX8_contains).before av.toArray s = true ∧ True := ⟨va_cnB 2 hts gX5_disagreeWithin_X8_contains_n39 rfl rfl rfl (hKK.2.at 9 rfl) (hts (.initialized RX8) (List.mem_of_getElem? (i := 6) rfl)) (by decide +kernel) ⟨Nat.le_of_ble_eq_true rfl, Nat.le_of_ble_eq_true rfl⟩, hts (.static yX8_contains) (List.mem_of_getElem? (i := 5) rfl), trivial⟩
  have cw43 : CallW rmX5_disagreeWithin s av.toArray RX5 RX5 43 yX5_withSignature cX5_withSignature 7 (some .int) wsX5_withSignature rmX5_withSignature 0 0 3 := cwV 3 hts gX5_disagreeWithin_X5_withSignature rfl rfl rfl (by decide +kernel) ⟨Nat.le_of_ble_eq_true rfl, Nat.le_of_ble_eq_true rfl⟩
  have cw56 : CallW rmX5_disagreeWithin s av.toArray RX5 RX5 56 yX5_agree cX5_agree 4 (some .boolean) wsX5_agree rmX5_agree 0 0 1 := cwV 1 hts gX5_disagreeWithin_X5_agree rfl rfl rfl (by decide +kernel) ⟨Nat.le_of_ble_eq_true rfl, Nat.le_of_ble_eq_true rfl⟩
  have F2 : ∀ (n : Nat) (y1 : Int32) (y2 : Int32), lX5_disagreeWithin_2 m_count m_type m_name m_arity m_keys m_defaults n y1 y2 = some r → ∀ ls : Array Slot, lv_has ls 4 [(0, .ref a_m), (1, .int y1), (2, .int y2)] → WP p l e rmX5_disagreeWithin s m av below meth c r 2 ls [] := by
    intro n
    induction n with
    | zero => intro y1 y2 h; exact no_some h
    | succ n ih =>
      intro y1 y2 h ls hl
      rw [lX5_disagreeWithin_2_s] at h
      refine lv_iload_n hx hb dX5_disagreeWithin_2 rfl (lv_at hl 2 rfl) ?_
      refine lv_aload_n hx hb dX5_disagreeWithin_3 rfl (lv_at hl 0 rfl) ?_
      refine va_get (D := D) (ci := 5) (v := .int m_count) (C := RX5) (T := TX5) (N := 6) hx hb hts hinX5 hown hKK.1 hP 0 rfl rfl 0 (by decide) lk27 (fun _ h9 => h9) rfl dX5_disagreeWithin_4 ?_
      refine lv_icmp_ge (tgt := 57) hx hb dX5_disagreeWithin_7 (by decide) (fun c1 => ?_) (fun c1 => ?_)
      · have h := ifp h c1
        refine lv_iconst (v := 0) hx hb dX5_disagreeWithin_57 (by decide) ?_
        exact kRetZ hx hb hr hlk rfl (Option.some.inj h) dX5_disagreeWithin_58
      · have h := ifn h c1
        refine lv_iload_n hx hb dX5_disagreeWithin_10 rfl (lv_at hl 1 rfl) ?_
        refine lv_aload_n hx hb dX5_disagreeWithin_11 rfl (lv_at hl 0 rfl) ?_
        refine va_get (D := D) (ci := 5) (v := .ref a_m_type) (C := RX5) (T := TX5) (N := 6) hx hb hts hinX5 hown hKK.1 hP 0 rfl rfl 1 (by decide) lk9 (fun _ h9 => h9) rfl dX5_disagreeWithin_12 ?_
        refine lv_iload_n hx hb dX5_disagreeWithin_15 rfl (lv_at hl 2 rfl) ?_
        obtain ⟨v2, iv2, ev2, h⟩ := rd_some h
        refine kAld hx hb hKK hP 1 rfl iv2 ev2 dX5_disagreeWithin_16 ?_
        obtain ⟨v3, ev3, h⟩ := bn_some h
        refine kSN (As := [.int y1, .int v2]) (rest := []) SS hKK (qX8_contains l D cI cM y1 v2 v3 ev3) cw39 va_P_nil rfl hl.1 rfl (Nat.le_of_ble_eq_true rfl) dX5_disagreeWithin_17 ⟨Nat.zero_le _, Nat.zero_le _⟩ ?_
        refine lv_istore_n (lv' := [(3, .int v3), (0, .ref a_m), (1, .int y1), (2, .int y2)]) hx hb dX5_disagreeWithin_20 rfl hl (by decide) rfl (fun ls hl => ?_)
        refine lv_iload_n hx hb dX5_disagreeWithin_21 rfl (lv_at hl 0 rfl) ?_
        refine lv_if_eq (tgt := 51) hx hb dX5_disagreeWithin_22 (by decide) (fun c4 => ?_) (fun c4 => ?_)
        · have h := ifp h c4
          refine lv_iinc (v := y2 + 1) (lv' := [(2, .int (y2 + 1)), (3, .int v3), (0, .ref a_m), (1, .int y1)]) hx hb dX5_disagreeWithin_51 hl (k := 3) rfl rfl (by decide) rfl (fun ls hl => ?_)
          refine lv_goto (tgt := 2) hx hb dX5_disagreeWithin_54 (by decide) ?_
          exact ih y1 (y2 + 1) h ls (lv_sub (l' := [(0, .ref a_m), (1, .int y1), (2, .int (y2 + 1))]) hl [2, 3, 0] rfl)
        · have h := ifn h c4
          refine lv_aload_n hx hb dX5_disagreeWithin_25 rfl (lv_at hl 1 rfl) ?_
          refine lv_aload_n hx hb dX5_disagreeWithin_26 rfl (lv_at hl 1 rfl) ?_
          refine lv_aload_n hx hb dX5_disagreeWithin_27 rfl (lv_at hl 1 rfl) ?_
          refine va_get (D := D) (ci := 5) (v := .ref a_m_name) (C := RX5) (T := TX5) (N := 6) hx hb hts hinX5 hown hKK.1 hP 0 rfl rfl 2 (by decide) lk15 (fun _ h9 => h9) rfl dX5_disagreeWithin_28 ?_
          refine lv_iload_n hx hb dX5_disagreeWithin_31 rfl (lv_at hl 3 rfl) ?_
          obtain ⟨v5, iv5, ev5, h⟩ := rd_some h
          refine kAld hx hb hKK hP 2 rfl iv5 ev5 dX5_disagreeWithin_32 ?_
          refine lv_aload_n hx hb dX5_disagreeWithin_33 rfl (lv_at hl 1 rfl) ?_
          refine va_get (D := D) (ci := 5) (v := .ref a_m_arity) (C := RX5) (T := TX5) (N := 6) hx hb hts hinX5 hown hKK.1 hP 0 rfl rfl 3 (by decide) lk18 (fun _ h9 => h9) rfl dX5_disagreeWithin_34 ?_
          refine lv_iload_n hx hb dX5_disagreeWithin_37 rfl (lv_at hl 3 rfl) ?_
          obtain ⟨v6, iv6, ev6, h⟩ := rd_some h
          refine kAld hx hb hKK hP 3 rfl iv6 ev6 dX5_disagreeWithin_38 ?_
          refine lv_iload_n hx hb dX5_disagreeWithin_39 rfl (lv_at hl 2 rfl) ?_
          obtain ⟨v7, ev7, h⟩ := bn_some h
          have hs8 : va_P D vwCl (W_m cI cM a_m a_m_type a_m_name a_m_arity a_m_keys a_m_defaults m_count m_type m_name m_arity m_keys m_defaults) _ := hP.sub (ws' := W_m cI cM a_m a_m_type a_m_name a_m_arity a_m_keys a_m_defaults m_count m_type m_name m_arity m_keys m_defaults) [0, 1, 2, 3, 4, 5] rfl
          refine kV (As := [.int v5, .int v6, .int y1]) (rest := [.ref a_m]) SS hKK (qX5_withSignature l D cI cM a_m a_m_type a_m_name a_m_arity a_m_keys a_m_defaults m_count m_type m_name m_arity m_keys m_defaults v5 v6 y1 v7 ev7) cw43 hs8 0 5 rfl rfl rfl hl.1 rfl (Nat.le_of_ble_eq_true rfl) dX5_disagreeWithin_40 ⟨Nat.zero_le _, Nat.zero_le _⟩ ?_
          obtain ⟨v9, ev9, h⟩ := bn_some h
          refine kV (As := [.int v7]) (rest := []) SS hKK (qX5_agree l D cI cM a_m a_m_type a_m_name a_m_arity a_m_keys a_m_defaults m_count m_type m_name m_arity m_keys m_defaults v7 v9 ev9) cw56 hs8 0 5 rfl rfl rfl hl.1 rfl (Nat.le_of_ble_eq_true rfl) dX5_disagreeWithin_43 ⟨Nat.zero_le _, Nat.zero_le _⟩ ?_
          refine lv_if_ne (tgt := 51) hx hb dX5_disagreeWithin_46 (by decide) (fun c10 => ?_) (fun c10 => ?_)
          · have h := ifn h c10
            refine lv_iinc (v := y2 + 1) (lv' := [(2, .int (y2 + 1)), (3, .int v3), (0, .ref a_m), (1, .int y1)]) hx hb dX5_disagreeWithin_51 hl (k := 3) rfl rfl (by decide) rfl (fun ls hl => ?_)
            refine lv_goto (tgt := 2) hx hb dX5_disagreeWithin_54 (by decide) ?_
            exact ih y1 (y2 + 1) h ls (lv_sub (l' := [(0, .ref a_m), (1, .int y1), (2, .int (y2 + 1))]) hl [2, 3, 0] rfl)
          · have h := ifp h c10
            refine lv_iconst (v := 1) hx hb dX5_disagreeWithin_49 (by decide) ?_
            exact kRetZ hx hb hr hlk rfl (Option.some.inj h) dX5_disagreeWithin_50
  unfold fX5_disagreeWithin at h
  refine lv_iconst (v := 0) hx hb dX5_disagreeWithin_0 (by decide) ?_
  refine lv_istore_n (lv' := [(2, .int 0), (0, .ref a_m), (1, .int x1)]) hx hb dX5_disagreeWithin_1 rfl hl (by decide) rfl (fun ls hl => ?_)
  exact F2 5000 x1 0 h ls (lv_sub (l' := [(0, .ref a_m), (1, .int x1), (2, .int 0)]) hl [1, 2, 0] rfl)
set_option maxHeartbeats 8000000 in
set_option maxRecDepth 100000 in
theorem qX5_putParameter (l : Launch) (D : va_G) (cI cM : ClassId) (a_m a_m_type a_m_name a_m_arity a_m_keys a_m_defaults : Nat) (m_count : Int32) (m_type : Nat → Int32) (m_name : Nat → Int32) (m_arity : Nat → Int32) (m_keys : Nat → Int32) (m_defaults : Nat → Int32) (x1 : Int32) (x2 : Int32) (x3 : Int32) (x4 : Int32) (r_m_keys : Nat → Int32) (r_m_defaults : Nat → Int32) (h : fX5_putParameter m_keys m_defaults x1 x2 x3 x4 = some (r_m_keys, r_m_defaults)) : IM l yX5_putParameter wsX5_putParameter rmX5_putParameter D cI cM [.ref a_m, .int x1, .int x2, .int x3, .int x4] (W_m cI cM a_m a_m_type a_m_name a_m_arity a_m_keys a_m_defaults m_count m_type m_name m_arity m_keys m_defaults) (W_m cI cM a_m a_m_type a_m_name a_m_arity a_m_keys a_m_defaults m_count m_type m_name m_arity r_m_keys r_m_defaults) none := by
  refine IM.of (cc := cX5_putParameter) (maxL := 5) (ret := none) (by decide) rfl (Nat.le_of_ble_eq_true rfl) ?_
  intro p e s m below meth c ls hx hb hr hml hown hts hlk hKK hP hD hS hl
  have hown : s.vm.findClass RX5 = some m.cls := hown
  have hl : lv_has ls 5 [(0, .ref a_m), (1, .int x1), (2, .int x2), (3, .int x3), (4, .int x4)] := hl
  generalize hav : ([.ref a_m, .int x1, .int x2, .int x3, .int x4] : List Value) = av at hts ⊢
  generalize hw1 : W_m cI cM a_m a_m_type a_m_name a_m_arity a_m_keys a_m_defaults m_count m_type m_name m_arity r_m_keys r_m_defaults = w1
  generalize hw0 : W_m cI cM a_m a_m_type a_m_name a_m_arity a_m_keys a_m_defaults m_count m_type m_name m_arity m_keys m_defaults = w0 at hD hS ⊢
  have hP : va_P D vwCl (W_m cI cM a_m a_m_type a_m_name a_m_arity a_m_keys a_m_defaults m_count m_type m_name m_arity m_keys m_defaults) s.heap := hP
  have hD : va_D (fun q => q ∈ w0.map (·.1)) (W_m cI cM a_m a_m_type a_m_name a_m_arity a_m_keys a_m_defaults m_count m_type m_name m_arity m_keys m_defaults) := by rw [hw0]; exact hD
  have SS : CallFix p m c cX5_putParameter 5 s av.toArray wsX5_putParameter RX5 := ⟨hx, hb, hml, hown, hts⟩
  have hinX5 : ∀ w ∈ u_ws RX5 TX5 6, w ∈ wsX5_putParameter := by decide +kernel
  have lk21 := hts (.fieldLink RX5 21 "SignatureChanger$Methods" "keys" "[I") (List.mem_of_getElem? (i := 1) rfl)
  have lk24 := hts (.fieldLink RX5 24 "SignatureChanger$Methods" "defaults" "[I") (List.mem_of_getElem? (i := 2) rfl)
  unfold fX5_putParameter at h
  refine lv_aload_n hx hb dX5_putParameter_0 rfl (lv_at hl 0 rfl) ?_
  refine va_get (D := D) (ci := 5) (v := .ref a_m_keys) (C := RX5) (T := TX5) (N := 6) hx hb hts hinX5 hown hKK.1 hP 0 rfl rfl 4 (by decide) lk21 (fun _ h9 => h9) rfl dX5_putParameter_1 ?_
  refine lv_iload_n hx hb dX5_putParameter_4 rfl (lv_at hl 1 rfl) ?_
  refine lv_iconst (v := 5) hx hb dX5_putParameter_5 (by decide) ?_
  refine lv_imul hx hb dX5_putParameter_6 ?_
  refine lv_iload_n hx hb dX5_putParameter_7 rfl (lv_at hl 2 rfl) ?_
  refine lv_iadd hx hb dX5_putParameter_8 ?_
  refine lv_iload_n hx hb dX5_putParameter_9 rfl (lv_at hl 3 rfl) ?_
  obtain ⟨g1, ig1, eg1, h⟩ := wr_some h
  refine kAst hx hb hKK hP hD hS 4 rfl ig1 eg1 dX5_putParameter_10 (fun H locs hP hD hS => ?_)
  have hP : va_P D vwCl (W_m cI cM a_m a_m_type a_m_name a_m_arity a_m_keys a_m_defaults m_count m_type m_name m_arity g1 m_defaults) H := hP
  have hD : va_D _ (W_m cI cM a_m a_m_type a_m_name a_m_arity a_m_keys a_m_defaults m_count m_type m_name m_arity g1 m_defaults) := hD
  refine lv_aload_n hx hb dX5_putParameter_11 rfl (lv_at hl 0 rfl) ?_
  refine va_get (D := D) (ci := 5) (v := .ref a_m_defaults) (C := RX5) (T := TX5) (N := 6) hx hb hts hinX5 hown hKK.1 hP 0 rfl rfl 5 (by decide) lk24 (fun _ h9 => h9) rfl dX5_putParameter_12 ?_
  refine lv_iload_n hx hb dX5_putParameter_15 rfl (lv_at hl 1 rfl) ?_
  refine lv_iconst (v := 5) hx hb dX5_putParameter_16 (by decide) ?_
  refine lv_imul hx hb dX5_putParameter_17 ?_
  refine lv_iload_n hx hb dX5_putParameter_18 rfl (lv_at hl 2 rfl) ?_
  refine lv_iadd hx hb dX5_putParameter_19 ?_
  refine lv_iload hx hb dX5_putParameter_20 (lv_at hl 4 rfl) ?_
  obtain ⟨g2, ig2, eg2, h⟩ := wr_some h
  refine kAst hx hb hKK hP hD hS 5 rfl ig2 eg2 dX5_putParameter_22 (fun H locs hP hD hS => ?_)
  have hP : va_P D vwCl (W_m cI cM a_m a_m_type a_m_name a_m_arity a_m_keys a_m_defaults m_count m_type m_name m_arity g1 g2) H := hP
  have hD : va_D _ (W_m cI cM a_m a_m_type a_m_name a_m_arity a_m_keys a_m_defaults m_count m_type m_name m_arity g1 g2) := hD
  simp only [Option.some.injEq, Prod.mk.injEq] at h
  obtain ⟨e0, e1⟩ := h
  exact kRetV hx hb hr hlk (by rw [← hw1, ← e0, ← e1]; exact hP) hS dX5_putParameter_23
set_option maxHeartbeats 8000000 in
set_option maxRecDepth 100000 in
theorem qX5_add (l : Launch) (D : va_G) (cI cM : ClassId) (a_m a_m_type a_m_name a_m_arity a_m_keys a_m_defaults : Nat) (m_count : Int32) (m_type : Nat → Int32) (m_name : Nat → Int32) (m_arity : Nat → Int32) (m_keys : Nat → Int32) (m_defaults : Nat → Int32) (x1 : Int32) (x2 : Int32) (x3 : Int32) (x4 : Int32) (r : Int32) (r_m_count : Int32) (r_m_type : Nat → Int32) (r_m_name : Nat → Int32) (r_m_arity : Nat → Int32) (r_m_keys : Nat → Int32) (r_m_defaults : Nat → Int32) (h : fX5_add m_count m_type m_name m_arity m_keys m_defaults x1 x2 x3 x4 = some (r, r_m_count, r_m_type, r_m_name, r_m_arity, r_m_keys, r_m_defaults)) : IM l yX5_add wsX5_add rmX5_add D cI cM [.ref a_m, .int x1, .int x2, .int x3, .int x4] (W_m cI cM a_m a_m_type a_m_name a_m_arity a_m_keys a_m_defaults m_count m_type m_name m_arity m_keys m_defaults) (W_m cI cM a_m a_m_type a_m_name a_m_arity a_m_keys a_m_defaults r_m_count r_m_type r_m_name r_m_arity r_m_keys r_m_defaults) (some (.int r)) := by
  refine IM.of (cc := cX5_add) (maxL := 8) (ret := (some .int)) (by decide) rfl (Nat.le_of_ble_eq_true rfl) ?_
  intro p e s m below meth c ls hx hb hr hml hown hts hlk hKK hP hD hS hl
  have hown : s.vm.findClass RX5 = some m.cls := hown
  have hl : lv_has ls 8 [(0, .ref a_m), (1, .int x1), (2, .int x2), (3, .int x3), (4, .int x4)] := hl
  generalize hav : ([.ref a_m, .int x1, .int x2, .int x3, .int x4] : List Value) = av at hts ⊢
  generalize hw1 : W_m cI cM a_m a_m_type a_m_name a_m_arity a_m_keys a_m_defaults r_m_count r_m_type r_m_name r_m_arity r_m_keys r_m_defaults = w1
  generalize hw0 : W_m cI cM a_m a_m_type a_m_name a_m_arity a_m_keys a_m_defaults m_count m_type m_name m_arity m_keys m_defaults = w0 at hD hS ⊢
  have hP : va_P D vwCl (W_m cI cM a_m a_m_type a_m_name a_m_arity a_m_keys a_m_defaults m_count m_type m_name m_arity m_keys m_defaults) s.heap := hP
  have hD : va_D (fun q => q ∈ w0.map (·.1)) (W_m cI cM a_m a_m_type a_m_name a_m_arity a_m_keys a_m_defaults m_count m_type m_name m_arity m_keys m_defaults) := by rw [hw0]; exact hD
  have SS : CallFix p m c cX5_add 8 s av.toArray wsX5_add RX5 := ⟨hx, hb, hml, hown, hts⟩
  have hinX5 : ∀ w ∈ u_ws RX5 TX5 6, w ∈ wsX5_add := by decide +kernel
  have lk9 := hts (.fieldLink RX5 9 "SignatureChanger$Methods" "type" "[I") (List.mem_of_getElem? (i := 2) rfl)
  have lk15 := hts (.fieldLink RX5 15 "SignatureChanger$Methods" "name" "[I") (List.mem_of_getElem? (i := 3) rfl)
  have lk18 := hts (.fieldLink RX5 18 "SignatureChanger$Methods" "arity" "[I") (List.mem_of_getElem? (i := 4) rfl)
  have lk27 := hts (.fieldLink RX5 27 "SignatureChanger$Methods" "count" "I") (List.mem_of_getElem? (i := 1) rfl)
  have cw31 : CallW rmX5_add s av.toArray RX5 RX5 31 yX5_keyOf cX5_keyOf 3 (some .int) wsX5_keyOf rmX5_keyOf 0 0 2 := cwV 2 hts gX5_add_X5_keyOf rfl rfl rfl (by decide +kernel) ⟨Nat.le_of_ble_eq_true rfl, Nat.le_of_ble_eq_true rfl⟩
  have cw50 : CallW rmX5_add s av.toArray RX5 RX5 50 yX5_defaultOf cX5_defaultOf 3 (some .int) wsX5_defaultOf rmX5_defaultOf 0 0 2 := cwV 2 hts gX5_add_X5_defaultOf rfl rfl rfl (by decide +kernel) ⟨Nat.le_of_ble_eq_true rfl, Nat.le_of_ble_eq_true rfl⟩
  have cw60 : CallW rmX5_add s av.toArray RX5 RX5 60 yX5_putParameter cX5_putParameter 5 none wsX5_putParameter rmX5_putParameter 0 0 4 := cwV 4 hts gX5_add_X5_putParameter rfl rfl rfl (by decide +kernel) ⟨Nat.le_of_ble_eq_true rfl, Nat.le_of_ble_eq_true rfl⟩
  have F87 : ∀ (k33 : (Int32) → (Nat → Int32) → (Nat → Int32) → (Nat → Int32) → (Nat → Int32) → (Nat → Int32) → Int32 → Int32 → Int32 → Int32 → Option (Int32 × Int32 × (Nat → Int32) × (Nat → Int32) × (Nat → Int32) × (Nat → Int32) × (Nat → Int32))) (hk33 : ∀ (H : Heap) (locs : List Loc) (w_m_count : Int32) (w_m_type : Nat → Int32) (w_m_name : Nat → Int32) (w_m_arity : Nat → Int32) (w_m_keys : Nat → Int32) (w_m_defaults : Nat → Int32) (u3 : Int32) (u4 : Int32) (u5 : Int32) (u6 : Int32), k33 w_m_count w_m_type w_m_name w_m_arity w_m_keys w_m_defaults u3 u4 u5 u6 = some (r, r_m_count, r_m_type, r_m_name, r_m_arity, r_m_keys, r_m_defaults) → va_P D vwCl (W_m cI cM a_m a_m_type a_m_name a_m_arity a_m_keys a_m_defaults w_m_count w_m_type w_m_name w_m_arity w_m_keys w_m_defaults) H → va_D (fun q => q ∈ w0.map (·.1)) (W_m cI cM a_m a_m_type a_m_name a_m_arity a_m_keys a_m_defaults w_m_count w_m_type w_m_name w_m_arity w_m_keys w_m_defaults) → va_S (fun q => q ∈ w0.map (·.1)) s.heap H locs → ∀ ls : Array Slot, lv_has ls 8 [(0, .ref a_m), (3, .int u3), (4, .int u4), (5, .int u5), (6, .int u6)] → WI p l e rmX5_add s m av below meth c D w0 w1 (some (.int r)) H locs 33 ls []), ∀ (H : Heap) (locs : List Loc) (m_count : Int32) (m_type : Nat → Int32) (m_name : Nat → Int32) (m_arity : Nat → Int32) (m_keys : Nat → Int32) (m_defaults : Nat → Int32) (y3 : Int32) (y4 : Int32) (y5 : Int32) (y6 : Int32) (s1 : Int32) (s2 : Int32) (s3 : Int32) (s4 : Int32), jX5_add_87  k33 m_count m_type m_name m_arity m_keys m_defaults y3 y4 y5 y6 s1 s2 s3 s4 = some (r, r_m_count, r_m_type, r_m_name, r_m_arity, r_m_keys, r_m_defaults) → va_P D vwCl (W_m cI cM a_m a_m_type a_m_name a_m_arity a_m_keys a_m_defaults m_count m_type m_name m_arity m_keys m_defaults) H → va_D (fun q => q ∈ (w0).map (·.1)) (W_m cI cM a_m a_m_type a_m_name a_m_arity a_m_keys a_m_defaults m_count m_type m_name m_arity m_keys m_defaults) → va_S (fun q => q ∈ (w0).map (·.1)) s.heap H locs → ∀ ls : Array Slot, lv_has ls 8 [(0, .ref a_m), (3, .int y3), (4, .int y4), (5, .int y5), (6, .int y6)] → WI p l e rmX5_add s m av below meth c D w0 w1 (some (.int r)) H locs 87 ls [.int s4, .int s3, .int s2, .int s1, .ref a_m] := by
    intro k33 hk33
    intro H locs m_count m_type m_name m_arity m_keys m_defaults y3 y4 y5 y6 s1 s2 s3 s4 h hP hD hS ls hl
    unfold jX5_add_87 at h
    obtain ⟨g1, g2, eg1, h⟩ := bn2_some h
    refine kVI (As := [.int s1, .int s2, .int s3, .int s4]) (rest := []) (st1 := []) SS hKK (qX5_putParameter l D cI cM a_m a_m_type a_m_name a_m_arity a_m_keys a_m_defaults m_count m_type m_name m_arity m_keys m_defaults s1 s2 s3 s4 g1 g2 eg1) cw60 hP hD hS [0, 1, 2, 3, 4, 5] rfl rfl rfl rfl 0 5 rfl rfl rfl hl.1 rfl (Nat.le_of_ble_eq_true rfl) dX5_add_87 ⟨Nat.zero_le _, Nat.zero_le _⟩ rfl (fun H locs hP hD hS => ?_)
    have hP : va_P D vwCl (W_m cI cM a_m a_m_type a_m_name a_m_arity a_m_keys a_m_defaults m_count m_type m_name m_arity g1 g2) H := hP
    have hD : va_D _ (W_m cI cM a_m a_m_type a_m_name a_m_arity a_m_keys a_m_defaults m_count m_type m_name m_arity g1 g2) := hD
    refine lv_iinc (v := y6 + 1) (lv' := [(6, .int (y6 + 1)), (0, .ref a_m), (3, .int y3), (4, .int y4), (5, .int y5)]) hx hb dX5_add_90 hl (k := 4) rfl rfl (by decide) rfl (fun ls hl => ?_)
    refine lv_goto (tgt := 33) hx hb dX5_add_93 (by decide) ?_
    exact hk33 H locs m_count m_type m_name m_arity g1 g2 y3 y4 y5 (y6 + 1) h hP hD hS ls (lv_sub (l' := [(0, .ref a_m), (3, .int y3), (4, .int y4), (5, .int y5), (6, .int (y6 + 1))]) hl [1, 2, 3, 4, 0] rfl)
  have F59 : ∀ (k33 : (Int32) → (Nat → Int32) → (Nat → Int32) → (Nat → Int32) → (Nat → Int32) → (Nat → Int32) → Int32 → Int32 → Int32 → Int32 → Option (Int32 × Int32 × (Nat → Int32) × (Nat → Int32) × (Nat → Int32) × (Nat → Int32) × (Nat → Int32))) (hk33 : ∀ (H : Heap) (locs : List Loc) (w_m_count : Int32) (w_m_type : Nat → Int32) (w_m_name : Nat → Int32) (w_m_arity : Nat → Int32) (w_m_keys : Nat → Int32) (w_m_defaults : Nat → Int32) (u3 : Int32) (u4 : Int32) (u5 : Int32) (u6 : Int32), k33 w_m_count w_m_type w_m_name w_m_arity w_m_keys w_m_defaults u3 u4 u5 u6 = some (r, r_m_count, r_m_type, r_m_name, r_m_arity, r_m_keys, r_m_defaults) → va_P D vwCl (W_m cI cM a_m a_m_type a_m_name a_m_arity a_m_keys a_m_defaults w_m_count w_m_type w_m_name w_m_arity w_m_keys w_m_defaults) H → va_D (fun q => q ∈ w0.map (·.1)) (W_m cI cM a_m a_m_type a_m_name a_m_arity a_m_keys a_m_defaults w_m_count w_m_type w_m_name w_m_arity w_m_keys w_m_defaults) → va_S (fun q => q ∈ w0.map (·.1)) s.heap H locs → ∀ ls : Array Slot, lv_has ls 8 [(0, .ref a_m), (3, .int u3), (4, .int u4), (5, .int u5), (6, .int u6)] → WI p l e rmX5_add s m av below meth c D w0 w1 (some (.int r)) H locs 33 ls []), ∀ (H : Heap) (locs : List Loc) (m_count : Int32) (m_type : Nat → Int32) (m_name : Nat → Int32) (m_arity : Nat → Int32) (m_keys : Nat → Int32) (m_defaults : Nat → Int32) (y3 : Int32) (y4 : Int32) (y5 : Int32) (y6 : Int32) (s0 : Int32), jX5_add_59  k33 m_count m_type m_name m_arity m_keys m_defaults y3 y4 y5 y6 s0 = some (r, r_m_count, r_m_type, r_m_name, r_m_arity, r_m_keys, r_m_defaults) → va_P D vwCl (W_m cI cM a_m a_m_type a_m_name a_m_arity a_m_keys a_m_defaults m_count m_type m_name m_arity m_keys m_defaults) H → va_D (fun q => q ∈ (w0).map (·.1)) (W_m cI cM a_m a_m_type a_m_name a_m_arity a_m_keys a_m_defaults m_count m_type m_name m_arity m_keys m_defaults) → va_S (fun q => q ∈ (w0).map (·.1)) s.heap H locs → ∀ ls : Array Slot, lv_has ls 8 [(0, .ref a_m), (3, .int y3), (4, .int y4), (5, .int y5), (6, .int y6)] → WI p l e rmX5_add s m av below meth c D w0 w1 (some (.int r)) H locs 59 ls [.int s0] := by
    intro k33 hk33
    intro H locs m_count m_type m_name m_arity m_keys m_defaults y3 y4 y5 y6 s0 h hP hD hS ls hl
    unfold jX5_add_59 at h
    refine lv_istore (lv' := [(7, .int s0), (0, .ref a_m), (3, .int y3), (4, .int y4), (5, .int y5), (6, .int y6)]) hx hb dX5_add_59 hl (by decide) rfl (fun ls hl => ?_)
    refine lv_aload_n hx hb dX5_add_61 rfl (lv_at hl 1 rfl) ?_
    refine lv_iload hx hb dX5_add_62 (lv_at hl 4 rfl) ?_
    refine lv_iload hx hb dX5_add_64 (lv_at hl 5 rfl) ?_
    refine lv_iload hx hb dX5_add_66 (lv_at hl 0 rfl) ?_
    refine lv_iload hx hb dX5_add_68 (lv_at hl 3 rfl) ?_
    refine lv_bipush (v := (-9)) hx hb dX5_add_70 (by decide) ?_
    refine lv_icmp_ne (tgt := 79) hx hb dX5_add_72 (by decide) (fun c1 => ?_) (fun c1 => ?_)
    · have h := ifn h c1
      refine lv_aload_n hx hb dX5_add_79 rfl (lv_at hl 1 rfl) ?_
      refine lv_iload hx hb dX5_add_80 (lv_at hl 3 rfl) ?_
      refine lv_iload hx hb dX5_add_82 (lv_at hl 5 rfl) ?_
      obtain ⟨v2, ev2, h⟩ := bn_some h
      have hs3 : va_P D vwCl (W_m cI cM a_m a_m_type a_m_name a_m_arity a_m_keys a_m_defaults m_count m_type m_name m_arity m_keys m_defaults) _ := hP.sub (ws' := W_m cI cM a_m a_m_type a_m_name a_m_arity a_m_keys a_m_defaults m_count m_type m_name m_arity m_keys m_defaults) [0, 1, 2, 3, 4, 5] rfl
      refine kV (As := [.int y4, .int y6]) (rest := [.int s0, .int y6, .int y5, .ref a_m]) SS hKK (qX5_defaultOf l D cI cM a_m a_m_type a_m_name a_m_arity a_m_keys a_m_defaults m_count m_type m_name m_arity m_keys m_defaults y4 y6 v2 ev2) cw50 hs3 0 5 rfl rfl rfl hl.1 rfl (Nat.le_of_ble_eq_true rfl) dX5_add_84 ⟨Nat.zero_le _, Nat.zero_le _⟩ ?_
      exact F87 k33 hk33 H locs m_count m_type m_name m_arity m_keys m_defaults y3 y4 y5 y6 y5 y6 s0 v2 h hP hD hS ls (lv_sub (l' := [(0, .ref a_m), (3, .int y3), (4, .int y4), (5, .int y5), (6, .int y6)]) hl [1, 2, 3, 4, 5] rfl)
    · have h := ifp h c1
      refine lv_iconst (v := 0) hx hb dX5_add_75 (by decide) ?_
      refine lv_goto (tgt := 87) hx hb dX5_add_76 (by decide) ?_
      exact F87 k33 hk33 H locs m_count m_type m_name m_arity m_keys m_defaults y3 y4 y5 y6 y5 y6 s0 0 h hP hD hS ls (lv_sub (l' := [(0, .ref a_m), (3, .int y3), (4, .int y4), (5, .int y5), (6, .int y6)]) hl [1, 2, 3, 4, 5] rfl)
  have F33 : ∀ (n : Nat) (H : Heap) (locs : List Loc) (m_count : Int32) (m_type : Nat → Int32) (m_name : Nat → Int32) (m_arity : Nat → Int32) (m_keys : Nat → Int32) (m_defaults : Nat → Int32) (y3 : Int32) (y4 : Int32) (y5 : Int32) (y6 : Int32), lX5_add_33  n m_count m_type m_name m_arity m_keys m_defaults y3 y4 y5 y6 = some (r, r_m_count, r_m_type, r_m_name, r_m_arity, r_m_keys, r_m_defaults) → va_P D vwCl (W_m cI cM a_m a_m_type a_m_name a_m_arity a_m_keys a_m_defaults m_count m_type m_name m_arity m_keys m_defaults) H → va_D (fun q => q ∈ (w0).map (·.1)) (W_m cI cM a_m a_m_type a_m_name a_m_arity a_m_keys a_m_defaults m_count m_type m_name m_arity m_keys m_defaults) → va_S (fun q => q ∈ (w0).map (·.1)) s.heap H locs → ∀ ls : Array Slot, lv_has ls 8 [(0, .ref a_m), (3, .int y3), (4, .int y4), (5, .int y5), (6, .int y6)] → WI p l e rmX5_add s m av below meth c D w0 w1 (some (.int r)) H locs 33 ls [] := by
    intro n
    induction n with
    | zero => intro H locs m_count m_type m_name m_arity m_keys m_defaults y3 y4 y5 y6 h; exact no_some h
    | succ n ih =>
      intro H locs m_count m_type m_name m_arity m_keys m_defaults y3 y4 y5 y6 h hP hD hS ls hl
      rw [lX5_add_33_s] at h
      refine lv_iload hx hb dX5_add_33 (lv_at hl 4 rfl) ?_
      refine lv_iload_n hx hb dX5_add_35 rfl (lv_at hl 1 rfl) ?_
      refine lv_icmp_ge (tgt := 96) hx hb dX5_add_36 (by decide) (fun c1 => ?_) (fun c1 => ?_)
      · have h := ifp h c1
        refine lv_aload_n hx hb dX5_add_96 rfl (lv_at hl 0 rfl) ?_
        refine lv_dup hx hb dX5_add_97 rfl ?_
        refine va_get (D := D) (ci := 5) (v := .int m_count) (C := RX5) (T := TX5) (N := 6) hx hb hts hinX5 hown hKK.1 hP 0 rfl rfl 0 (by decide) lk27 (fun _ h9 => h9) rfl dX5_add_98 ?_
        refine lv_iconst (v := 1) hx hb dX5_add_101 (by decide) ?_
        refine lv_iadd hx hb dX5_add_102 ?_
        refine va_put (D := D) (ci := 5) (v := .int (m_count + 1)) (ty := .int) (C := RX5) (T := TX5) (N := 6) hx hb hts hinX5 tyX5 tyX5_ok nmX5 hown hKK.1 hP hD hS 0 rfl rfl 0 (by decide) lk27 (fun _ h9 => h9) rfl (by decide +kernel) rfl rfl (Nat.le_of_ble_eq_true rfl) dX5_add_103 (fun H locs hP hD hS => ?_)
        have hP : va_P D vwCl (W_m cI cM a_m a_m_type a_m_name a_m_arity a_m_keys a_m_defaults (m_count + 1) m_type m_name m_arity m_keys m_defaults) H := hP
        have hD : va_D _ (W_m cI cM a_m a_m_type a_m_name a_m_arity a_m_keys a_m_defaults (m_count + 1) m_type m_name m_arity m_keys m_defaults) := hD
        refine lv_iload hx hb dX5_add_106 (lv_at hl 3 rfl) ?_
        simp only [Option.some.injEq, Prod.mk.injEq] at h
        obtain ⟨e0, e1, e2, e3, e4, e5, e6⟩ := h
        exact kRetI hx hb hr hlk e0 (by rw [← hw1, ← e1, ← e2, ← e3, ← e4, ← e5, ← e6]; exact hP) hS dX5_add_108
      · have h := ifn h c1
        refine lv_iload hx hb dX5_add_39 (lv_at hl 2 rfl) ?_
        refine lv_bipush (v := (-9)) hx hb dX5_add_41 (by decide) ?_
        refine lv_icmp_ne (tgt := 51) hx hb dX5_add_43 (by decide) (fun c2 => ?_) (fun c2 => ?_)
        · have h := ifn h c2
          refine lv_aload_n hx hb dX5_add_51 rfl (lv_at hl 0 rfl) ?_
          refine lv_iload hx hb dX5_add_52 (lv_at hl 2 rfl) ?_
          refine lv_iload hx hb dX5_add_54 (lv_at hl 4 rfl) ?_
          obtain ⟨v3, ev3, h⟩ := bn_some h
          have hs4 : va_P D vwCl (W_m cI cM a_m a_m_type a_m_name a_m_arity a_m_keys a_m_defaults m_count m_type m_name m_arity m_keys m_defaults) _ := hP.sub (ws' := W_m cI cM a_m a_m_type a_m_name a_m_arity a_m_keys a_m_defaults m_count m_type m_name m_arity m_keys m_defaults) [0, 1, 2, 3, 4, 5] rfl
          refine kV (As := [.int y4, .int y6]) (rest := []) SS hKK (qX5_keyOf l D cI cM a_m a_m_type a_m_name a_m_arity a_m_keys a_m_defaults m_count m_type m_name m_arity m_keys m_defaults y4 y6 v3 ev3) cw31 hs4 0 5 rfl rfl rfl hl.1 rfl (Nat.le_of_ble_eq_true rfl) dX5_add_56 ⟨Nat.zero_le _, Nat.zero_le _⟩ ?_
          exact F59 (fun w_m_count w_m_type w_m_name w_m_arity w_m_keys w_m_defaults u3 u4 u5 u6 => lX5_add_33  n w_m_count w_m_type w_m_name w_m_arity w_m_keys w_m_defaults u3 u4 u5 u6) (fun H locs w_m_count w_m_type w_m_name w_m_arity w_m_keys w_m_defaults u3 u4 u5 u6 h hP hD hS ls hl => ih H locs w_m_count w_m_type w_m_name w_m_arity w_m_keys w_m_defaults u3 u4 u5 u6 h hP hD hS ls hl) H locs m_count m_type m_name m_arity m_keys m_defaults y3 y4 y5 y6 v3 h hP hD hS ls (lv_sub (l' := [(0, .ref a_m), (3, .int y3), (4, .int y4), (5, .int y5), (6, .int y6)]) hl [0, 1, 2, 3, 4] rfl)
        · have h := ifp h c2
          refine lv_iload hx hb dX5_add_46 (lv_at hl 4 rfl) ?_
          refine lv_goto (tgt := 59) hx hb dX5_add_48 (by decide) ?_
          exact F59 (fun w_m_count w_m_type w_m_name w_m_arity w_m_keys w_m_defaults u3 u4 u5 u6 => lX5_add_33  n w_m_count w_m_type w_m_name w_m_arity w_m_keys w_m_defaults u3 u4 u5 u6) (fun H locs w_m_count w_m_type w_m_name w_m_arity w_m_keys w_m_defaults u3 u4 u5 u6 h hP hD hS ls hl => ih H locs w_m_count w_m_type w_m_name w_m_arity w_m_keys w_m_defaults u3 u4 u5 u6 h hP hD hS ls hl) H locs m_count m_type m_name m_arity m_keys m_defaults y3 y4 y5 y6 y6 h hP hD hS ls (lv_sub (l' := [(0, .ref a_m), (3, .int y3), (4, .int y4), (5, .int y5), (6, .int y6)]) hl [0, 1, 2, 3, 4] rfl)
  unfold fX5_add at h
  refine lv_aload_n hx hb dX5_add_0 rfl (lv_at hl 0 rfl) ?_
  refine va_get (D := D) (ci := 5) (v := .int m_count) (C := RX5) (T := TX5) (N := 6) hx hb hts hinX5 hown hKK.1 hP 0 rfl rfl 0 (by decide) lk27 (fun _ h9 => h9) rfl dX5_add_1 ?_
  refine lv_istore (lv' := [(5, .int m_count), (0, .ref a_m), (1, .int x1), (2, .int x2), (3, .int x3), (4, .int x4)]) hx hb dX5_add_4 hl (by decide) rfl (fun ls hl => ?_)
  refine lv_aload_n hx hb dX5_add_6 rfl (lv_at hl 1 rfl) ?_
  refine va_get (D := D) (ci := 5) (v := .ref a_m_type) (C := RX5) (T := TX5) (N := 6) hx hb hts hinX5 hown hKK.1 hP 0 rfl rfl 1 (by decide) lk9 (fun _ h9 => h9) rfl dX5_add_7 ?_
  refine lv_iload hx hb dX5_add_10 (lv_at hl 0 rfl) ?_
  refine lv_iload_n hx hb dX5_add_12 rfl (lv_at hl 2 rfl) ?_
  obtain ⟨g1, ig1, eg1, h⟩ := wr_some h
  refine kAst hx hb hKK hP hD hS 1 rfl ig1 eg1 dX5_add_13 (fun H locs hP hD hS => ?_)
  have hP : va_P D vwCl (W_m cI cM a_m a_m_type a_m_name a_m_arity a_m_keys a_m_defaults m_count g1 m_name m_arity m_keys m_defaults) H := hP
  have hD : va_D _ (W_m cI cM a_m a_m_type a_m_name a_m_arity a_m_keys a_m_defaults m_count g1 m_name m_arity m_keys m_defaults) := hD
  refine lv_aload_n hx hb dX5_add_14 rfl (lv_at hl 1 rfl) ?_
  refine va_get (D := D) (ci := 5) (v := .ref a_m_name) (C := RX5) (T := TX5) (N := 6) hx hb hts hinX5 hown hKK.1 hP 0 rfl rfl 2 (by decide) lk15 (fun _ h9 => h9) rfl dX5_add_15 ?_
  refine lv_iload hx hb dX5_add_18 (lv_at hl 0 rfl) ?_
  refine lv_iload_n hx hb dX5_add_20 rfl (lv_at hl 3 rfl) ?_
  obtain ⟨g2, ig2, eg2, h⟩ := wr_some h
  refine kAst hx hb hKK hP hD hS 2 rfl ig2 eg2 dX5_add_21 (fun H locs hP hD hS => ?_)
  have hP : va_P D vwCl (W_m cI cM a_m a_m_type a_m_name a_m_arity a_m_keys a_m_defaults m_count g1 g2 m_arity m_keys m_defaults) H := hP
  have hD : va_D _ (W_m cI cM a_m a_m_type a_m_name a_m_arity a_m_keys a_m_defaults m_count g1 g2 m_arity m_keys m_defaults) := hD
  refine lv_aload_n hx hb dX5_add_22 rfl (lv_at hl 1 rfl) ?_
  refine va_get (D := D) (ci := 5) (v := .ref a_m_arity) (C := RX5) (T := TX5) (N := 6) hx hb hts hinX5 hown hKK.1 hP 0 rfl rfl 3 (by decide) lk18 (fun _ h9 => h9) rfl dX5_add_23 ?_
  refine lv_iload hx hb dX5_add_26 (lv_at hl 0 rfl) ?_
  refine lv_iload_n hx hb dX5_add_28 rfl (lv_at hl 4 rfl) ?_
  obtain ⟨g3, ig3, eg3, h⟩ := wr_some h
  refine kAst hx hb hKK hP hD hS 3 rfl ig3 eg3 dX5_add_29 (fun H locs hP hD hS => ?_)
  have hP : va_P D vwCl (W_m cI cM a_m a_m_type a_m_name a_m_arity a_m_keys a_m_defaults m_count g1 g2 g3 m_keys m_defaults) H := hP
  have hD : va_D _ (W_m cI cM a_m a_m_type a_m_name a_m_arity a_m_keys a_m_defaults m_count g1 g2 g3 m_keys m_defaults) := hD
  refine lv_iconst (v := 0) hx hb dX5_add_30 (by decide) ?_
  refine lv_istore (lv' := [(6, .int 0), (5, .int m_count), (0, .ref a_m), (1, .int x1), (2, .int x2), (3, .int x3), (4, .int x4)]) hx hb dX5_add_31 hl (by decide) rfl (fun ls hl => ?_)
  exact F33 5000 H locs m_count g1 g2 g3 m_keys m_defaults x3 x4 m_count 0 h hP hD hS ls (lv_sub (l' := [(0, .ref a_m), (3, .int x3), (4, .int x4), (5, .int m_count), (6, .int 0)]) hl [2, 5, 6, 1, 0] rfl)
set_option maxHeartbeats 8000000 in
set_option maxRecDepth 100000 in
theorem qX5_replaceParameters (l : Launch) (D : va_G) (cI cM : ClassId) (a_m a_m_type a_m_name a_m_arity a_m_keys a_m_defaults a_d a_d_sources a_d_keys a_d_defaults : Nat) (m_count : Int32) (m_type : Nat → Int32) (m_name : Nat → Int32) (m_arity : Nat → Int32) (m_keys : Nat → Int32) (m_defaults : Nat → Int32) (d_open : Int32) (d_method : Int32) (d_family : Int32) (d_oldCount : Int32) (d_keptSet : Int32) (d_count : Int32) (d_sources : Nat → Int32) (d_keys : Nat → Int32) (d_defaults : Nat → Int32) (d_usedKeys : Int32) (r_m_arity : Nat → Int32) (r_m_keys : Nat → Int32) (r_m_defaults : Nat → Int32) (h : fX5_replaceParameters m_count m_arity m_keys m_defaults d_family d_count d_keys d_defaults = some (r_m_arity, r_m_keys, r_m_defaults)) : IM l yX5_replaceParameters wsX5_replaceParameters rmX5_replaceParameters D cI cM [.ref a_m, .ref a_d] (W_m_d cI cM a_m a_m_type a_m_name a_m_arity a_m_keys a_m_defaults a_d a_d_sources a_d_keys a_d_defaults m_count m_type m_name m_arity m_keys m_defaults d_open d_method d_family d_oldCount d_keptSet d_count d_sources d_keys d_defaults d_usedKeys) (W_m_d cI cM a_m a_m_type a_m_name a_m_arity a_m_keys a_m_defaults a_d a_d_sources a_d_keys a_d_defaults m_count m_type m_name r_m_arity r_m_keys r_m_defaults d_open d_method d_family d_oldCount d_keptSet d_count d_sources d_keys d_defaults d_usedKeys) none := by
  refine IM.of (cc := cX5_replaceParameters) (maxL := 4) (ret := none) (by decide) rfl (Nat.le_of_ble_eq_true rfl) ?_
  intro p e s m below meth c ls hx hb hr hml hown hts hlk hKK hP hD hS hl
  have hown : s.vm.findClass RX5 = some m.cls := hown
  have hl : lv_has ls 4 [(0, .ref a_m), (1, .ref a_d)] := hl
  generalize hav : ([.ref a_m, .ref a_d] : List Value) = av at hts ⊢
  generalize hw1 : W_m_d cI cM a_m a_m_type a_m_name a_m_arity a_m_keys a_m_defaults a_d a_d_sources a_d_keys a_d_defaults m_count m_type m_name r_m_arity r_m_keys r_m_defaults d_open d_method d_family d_oldCount d_keptSet d_count d_sources d_keys d_defaults d_usedKeys = w1
  generalize hw0 : W_m_d cI cM a_m a_m_type a_m_name a_m_arity a_m_keys a_m_defaults a_d a_d_sources a_d_keys a_d_defaults m_count m_type m_name m_arity m_keys m_defaults d_open d_method d_family d_oldCount d_keptSet d_count d_sources d_keys d_defaults d_usedKeys = w0 at hD hS ⊢
  have hP : va_P D vwCl (W_m_d cI cM a_m a_m_type a_m_name a_m_arity a_m_keys a_m_defaults a_d a_d_sources a_d_keys a_d_defaults m_count m_type m_name m_arity m_keys m_defaults d_open d_method d_family d_oldCount d_keptSet d_count d_sources d_keys d_defaults d_usedKeys) s.heap := hP
  have hD : va_D (fun q => q ∈ w0.map (·.1)) (W_m_d cI cM a_m a_m_type a_m_name a_m_arity a_m_keys a_m_defaults a_d a_d_sources a_d_keys a_d_defaults m_count m_type m_name m_arity m_keys m_defaults d_open d_method d_family d_oldCount d_keptSet d_count d_sources d_keys d_defaults d_usedKeys) := by rw [hw0]; exact hD
  have SS : CallFix p m c cX5_replaceParameters 4 s av.toArray wsX5_replaceParameters RX5 := ⟨hx, hb, hml, hown, hts⟩
  have hinX1 : ∀ w ∈ u_ws RX1 TX1 10, w ∈ wsX5_replaceParameters := by decide +kernel
  have hinX5 : ∀ w ∈ u_ws RX5 TX5 6, w ∈ wsX5_replaceParameters := by decide +kernel
  have lk18 := hts (.fieldLink RX5 18 "SignatureChanger$Methods" "arity" "[I") (List.mem_of_getElem? (i := 3) rfl)
  have lk27 := hts (.fieldLink RX5 27 "SignatureChanger$Methods" "count" "I") (List.mem_of_getElem? (i := 1) rfl)
  have lk64 := hts (.fieldLink RX5 64 "SignatureChanger$Draft" "family" "I") (List.mem_of_getElem? (i := 2) rfl)
  have lk69 := hts (.fieldLink RX5 69 "SignatureChanger$Draft" "count" "I") (List.mem_of_getElem? (i := 4) rfl)
  have lk70 := hts (.fieldLink RX5 70 "SignatureChanger$Draft" "keys" "[I") (List.mem_of_getElem? (i := 5) rfl)
  have lk71 := hts (.fieldLink RX5 71 "SignatureChanger$Draft" "defaults" "[I") (List.mem_of_getElem? (i := 6) rfl)
  have cw39 : va_CN rmX5_replaceParameters s av.toArray RX5 39 yX8_contains RX8 cX8_contains 2 (some .boolean) wsX8_contains rmX8_contains 0 0 2 ∧ (Cond.static yX8_contains).before av.toArray s = true ∧ True := ⟨va_cnB 2 hts gX5_replaceParameters_X8_contains_n39 rfl rfl rfl (hKK.2.at 9 rfl) (hts (.initialized RX8) (List.mem_of_getElem? (i := 8) rfl)) (by decide +kernel) ⟨Nat.le_of_ble_eq_true rfl, Nat.le_of_ble_eq_true rfl⟩, hts (.static yX8_contains) (List.mem_of_getElem? (i := 7) rfl), trivial⟩
  have cw60 : CallW rmX5_replaceParameters s av.toArray RX5 RX5 60 yX5_putParameter cX5_putParameter 5 none wsX5_putParameter rmX5_putParameter 0 0 4 := cwV 4 hts gX5_replaceParameters_X5_putParameter rfl rfl rfl (by decide +kernel) ⟨Nat.le_of_ble_eq_true rfl, Nat.le_of_ble_eq_true rfl⟩
  have F33 : ∀ (k2 : (Nat → Int32) → (Nat → Int32) → (Nat → Int32) → Int32 → Option ((Nat → Int32) × (Nat → Int32) × (Nat → Int32))) (hk2 : ∀ (H : Heap) (locs : List Loc) (w_m_arity : Nat → Int32) (w_m_keys : Nat → Int32) (w_m_defaults : Nat → Int32) (u2 : Int32), k2 w_m_arity w_m_keys w_m_defaults u2 = some (r_m_arity, r_m_keys, r_m_defaults) → va_P D vwCl (W_m_d cI cM a_m a_m_type a_m_name a_m_arity a_m_keys a_m_defaults a_d a_d_sources a_d_keys a_d_defaults m_count m_type m_name w_m_arity w_m_keys w_m_defaults d_open d_method d_family d_oldCount d_keptSet d_count d_sources d_keys d_defaults d_usedKeys) H → va_D (fun q => q ∈ w0.map (·.1)) (W_m_d cI cM a_m a_m_type a_m_name a_m_arity a_m_keys a_m_defaults a_d a_d_sources a_d_keys a_d_defaults m_count m_type m_name w_m_arity w_m_keys w_m_defaults d_open d_method d_family d_oldCount d_keptSet d_count d_sources d_keys d_defaults d_usedKeys) → va_S (fun q => q ∈ w0.map (·.1)) s.heap H locs → ∀ ls : Array Slot, lv_has ls 4 [(0, .ref a_m), (1, .ref a_d), (2, .int u2)] → WI p l e rmX5_replaceParameters s m av below meth c D w0 w1 none H locs 2 ls []), ∀ (n : Nat) (H : Heap) (locs : List Loc) (m_arity : Nat → Int32) (m_keys : Nat → Int32) (m_defaults : Nat → Int32) (y2 : Int32) (y3 : Int32), lX5_replaceParameters_33 m_count d_family d_count d_keys d_defaults k2 n m_arity m_keys m_defaults y2 y3 = some (r_m_arity, r_m_keys, r_m_defaults) → va_P D vwCl (W_m_d cI cM a_m a_m_type a_m_name a_m_arity a_m_keys a_m_defaults a_d a_d_sources a_d_keys a_d_defaults m_count m_type m_name m_arity m_keys m_defaults d_open d_method d_family d_oldCount d_keptSet d_count d_sources d_keys d_defaults d_usedKeys) H → va_D (fun q => q ∈ (w0).map (·.1)) (W_m_d cI cM a_m a_m_type a_m_name a_m_arity a_m_keys a_m_defaults a_d a_d_sources a_d_keys a_d_defaults m_count m_type m_name m_arity m_keys m_defaults d_open d_method d_family d_oldCount d_keptSet d_count d_sources d_keys d_defaults d_usedKeys) → va_S (fun q => q ∈ (w0).map (·.1)) s.heap H locs → ∀ ls : Array Slot, lv_has ls 4 [(0, .ref a_m), (1, .ref a_d), (2, .int y2), (3, .int y3)] → WI p l e rmX5_replaceParameters s m av below meth c D w0 w1 none H locs 33 ls [] := by
    intro k2 hk2
    intro n
    induction n with
    | zero => intro H locs m_arity m_keys m_defaults y2 y3 h; exact no_some h
    | succ n ih =>
      intro H locs m_arity m_keys m_defaults y2 y3 h hP hD hS ls hl
      rw [lX5_replaceParameters_33_s] at h
      refine lv_iload_n hx hb dX5_replaceParameters_33 rfl (lv_at hl 3 rfl) ?_
      refine lv_aload_n hx hb dX5_replaceParameters_34 rfl (lv_at hl 1 rfl) ?_
      refine va_get (D := D) (ci := 1) (v := .int d_count) (C := RX1) (T := TX1) (N := 10) hx hb hts hinX1 hown hKK.1 hP 6 rfl rfl 5 (by decide) lk69 (fun _ h9 => h9) rfl dX5_replaceParameters_35 ?_
      refine lv_icmp_ge (tgt := 65) hx hb dX5_replaceParameters_38 (by decide) (fun c1 => ?_) (fun c1 => ?_)
      · have h := ifp h c1
        refine lv_iinc (v := y2 + 1) (lv' := [(2, .int (y2 + 1)), (0, .ref a_m), (1, .ref a_d), (3, .int y3)]) hx hb dX5_replaceParameters_65 hl (k := 2) rfl rfl (by decide) rfl (fun ls hl => ?_)
        refine lv_goto (tgt := 2) hx hb dX5_replaceParameters_68 (by decide) ?_
        exact hk2 H locs m_arity m_keys m_defaults (y2 + 1) h hP hD hS ls (lv_sub (l' := [(0, .ref a_m), (1, .ref a_d), (2, .int (y2 + 1))]) hl [1, 2, 0] rfl)
      · have h := ifn h c1
        refine lv_aload_n hx hb dX5_replaceParameters_41 rfl (lv_at hl 0 rfl) ?_
        refine lv_iload_n hx hb dX5_replaceParameters_42 rfl (lv_at hl 2 rfl) ?_
        refine lv_iload_n hx hb dX5_replaceParameters_43 rfl (lv_at hl 3 rfl) ?_
        refine lv_aload_n hx hb dX5_replaceParameters_44 rfl (lv_at hl 1 rfl) ?_
        refine va_get (D := D) (ci := 1) (v := .ref a_d_keys) (C := RX1) (T := TX1) (N := 10) hx hb hts hinX1 hown hKK.1 hP 6 rfl rfl 7 (by decide) lk70 (fun _ h9 => h9) rfl dX5_replaceParameters_45 ?_
        refine lv_iload_n hx hb dX5_replaceParameters_48 rfl (lv_at hl 3 rfl) ?_
        obtain ⟨v2, iv2, ev2, h⟩ := rd_some h
        refine kAld hx hb hKK hP 8 rfl iv2 ev2 dX5_replaceParameters_49 ?_
        refine lv_aload_n hx hb dX5_replaceParameters_50 rfl (lv_at hl 1 rfl) ?_
        refine va_get (D := D) (ci := 1) (v := .ref a_d_defaults) (C := RX1) (T := TX1) (N := 10) hx hb hts hinX1 hown hKK.1 hP 6 rfl rfl 8 (by decide) lk71 (fun _ h9 => h9) rfl dX5_replaceParameters_51 ?_
        refine lv_iload_n hx hb dX5_replaceParameters_54 rfl (lv_at hl 3 rfl) ?_
        obtain ⟨v3, iv3, ev3, h⟩ := rd_some h
        refine kAld hx hb hKK hP 9 rfl iv3 ev3 dX5_replaceParameters_55 ?_
        obtain ⟨g4, g5, eg4, h⟩ := bn2_some h
        refine kVI (As := [.int y2, .int y3, .int v2, .int v3]) (rest := []) (st1 := []) SS hKK (qX5_putParameter l D cI cM a_m a_m_type a_m_name a_m_arity a_m_keys a_m_defaults m_count m_type m_name m_arity m_keys m_defaults y2 y3 v2 v3 g4 g5 eg4) cw60 hP hD hS [0, 1, 2, 3, 4, 5] rfl rfl rfl rfl 0 5 rfl rfl rfl hl.1 rfl (Nat.le_of_ble_eq_true rfl) dX5_replaceParameters_56 ⟨Nat.zero_le _, Nat.zero_le _⟩ rfl (fun H locs hP hD hS => ?_)
        have hP : va_P D vwCl (W_m_d cI cM a_m a_m_type a_m_name a_m_arity a_m_keys a_m_defaults a_d a_d_sources a_d_keys a_d_defaults m_count m_type m_name m_arity g4 g5 d_open d_method d_family d_oldCount d_keptSet d_count d_sources d_keys d_defaults d_usedKeys) H := hP
        have hD : va_D _ (W_m_d cI cM a_m a_m_type a_m_name a_m_arity a_m_keys a_m_defaults a_d a_d_sources a_d_keys a_d_defaults m_count m_type m_name m_arity g4 g5 d_open d_method d_family d_oldCount d_keptSet d_count d_sources d_keys d_defaults d_usedKeys) := hD
        refine lv_iinc (v := y3 + 1) (lv' := [(3, .int (y3 + 1)), (0, .ref a_m), (1, .ref a_d), (2, .int y2)]) hx hb dX5_replaceParameters_59 hl (k := 3) rfl rfl (by decide) rfl (fun ls hl => ?_)
        refine lv_goto (tgt := 33) hx hb dX5_replaceParameters_62 (by decide) ?_
        exact ih H locs m_arity g4 g5 y2 (y3 + 1) h hP hD hS ls (lv_sub (l' := [(0, .ref a_m), (1, .ref a_d), (2, .int y2), (3, .int (y3 + 1))]) hl [1, 2, 3, 0] rfl)
  have F2 : ∀ (n : Nat) (H : Heap) (locs : List Loc) (m_arity : Nat → Int32) (m_keys : Nat → Int32) (m_defaults : Nat → Int32) (y2 : Int32), lX5_replaceParameters_2 m_count d_family d_count d_keys d_defaults n m_arity m_keys m_defaults y2 = some (r_m_arity, r_m_keys, r_m_defaults) → va_P D vwCl (W_m_d cI cM a_m a_m_type a_m_name a_m_arity a_m_keys a_m_defaults a_d a_d_sources a_d_keys a_d_defaults m_count m_type m_name m_arity m_keys m_defaults d_open d_method d_family d_oldCount d_keptSet d_count d_sources d_keys d_defaults d_usedKeys) H → va_D (fun q => q ∈ (w0).map (·.1)) (W_m_d cI cM a_m a_m_type a_m_name a_m_arity a_m_keys a_m_defaults a_d a_d_sources a_d_keys a_d_defaults m_count m_type m_name m_arity m_keys m_defaults d_open d_method d_family d_oldCount d_keptSet d_count d_sources d_keys d_defaults d_usedKeys) → va_S (fun q => q ∈ (w0).map (·.1)) s.heap H locs → ∀ ls : Array Slot, lv_has ls 4 [(0, .ref a_m), (1, .ref a_d), (2, .int y2)] → WI p l e rmX5_replaceParameters s m av below meth c D w0 w1 none H locs 2 ls [] := by
    intro n
    induction n with
    | zero => intro H locs m_arity m_keys m_defaults y2 h; exact no_some h
    | succ n ih =>
      intro H locs m_arity m_keys m_defaults y2 h hP hD hS ls hl
      rw [lX5_replaceParameters_2_s] at h
      refine lv_iload_n hx hb dX5_replaceParameters_2 rfl (lv_at hl 2 rfl) ?_
      refine lv_aload_n hx hb dX5_replaceParameters_3 rfl (lv_at hl 0 rfl) ?_
      refine va_get (D := D) (ci := 5) (v := .int m_count) (C := RX5) (T := TX5) (N := 6) hx hb hts hinX5 hown hKK.1 hP 0 rfl rfl 0 (by decide) lk27 (fun _ h9 => h9) rfl dX5_replaceParameters_4 ?_
      refine lv_icmp_ge (tgt := 71) hx hb dX5_replaceParameters_7 (by decide) (fun c1 => ?_) (fun c1 => ?_)
      · have h := ifp h c1
        simp only [Option.some.injEq, Prod.mk.injEq] at h
        obtain ⟨e0, e1, e2⟩ := h
        exact kRetV hx hb hr hlk (by rw [← hw1, ← e0, ← e1, ← e2]; exact hP) hS dX5_replaceParameters_71
      · have h := ifn h c1
        refine lv_aload_n hx hb dX5_replaceParameters_10 rfl (lv_at hl 1 rfl) ?_
        refine va_get (D := D) (ci := 1) (v := .int d_family) (C := RX1) (T := TX1) (N := 10) hx hb hts hinX1 hown hKK.1 hP 6 rfl rfl 2 (by decide) lk64 (fun _ h9 => h9) rfl dX5_replaceParameters_11 ?_
        refine lv_iload_n hx hb dX5_replaceParameters_14 rfl (lv_at hl 2 rfl) ?_
        obtain ⟨v2, ev2, h⟩ := bn_some h
        refine kSN (As := [.int d_family, .int y2]) (rest := []) SS hKK (qX8_contains l D cI cM d_family y2 v2 ev2) cw39 va_P_nil rfl hl.1 rfl (Nat.le_of_ble_eq_true rfl) dX5_replaceParameters_15 ⟨Nat.zero_le _, Nat.zero_le _⟩ ?_
        refine lv_if_eq (tgt := 65) hx hb dX5_replaceParameters_18 (by decide) (fun c3 => ?_) (fun c3 => ?_)
        · have h := ifp h c3
          refine lv_iinc (v := y2 + 1) (lv' := [(2, .int (y2 + 1)), (0, .ref a_m), (1, .ref a_d)]) hx hb dX5_replaceParameters_65 hl (k := 2) rfl rfl (by decide) rfl (fun ls hl => ?_)
          refine lv_goto (tgt := 2) hx hb dX5_replaceParameters_68 (by decide) ?_
          exact ih H locs m_arity m_keys m_defaults (y2 + 1) h hP hD hS ls (lv_sub (l' := [(0, .ref a_m), (1, .ref a_d), (2, .int (y2 + 1))]) hl [1, 2, 0] rfl)
        · have h := ifn h c3
          refine lv_aload_n hx hb dX5_replaceParameters_21 rfl (lv_at hl 0 rfl) ?_
          refine va_get (D := D) (ci := 5) (v := .ref a_m_arity) (C := RX5) (T := TX5) (N := 6) hx hb hts hinX5 hown hKK.1 hP 0 rfl rfl 3 (by decide) lk18 (fun _ h9 => h9) rfl dX5_replaceParameters_22 ?_
          refine lv_iload_n hx hb dX5_replaceParameters_25 rfl (lv_at hl 2 rfl) ?_
          refine lv_aload_n hx hb dX5_replaceParameters_26 rfl (lv_at hl 1 rfl) ?_
          refine va_get (D := D) (ci := 1) (v := .int d_count) (C := RX1) (T := TX1) (N := 10) hx hb hts hinX1 hown hKK.1 hP 6 rfl rfl 5 (by decide) lk69 (fun _ h9 => h9) rfl dX5_replaceParameters_27 ?_
          obtain ⟨g4, ig4, eg4, h⟩ := wr_some h
          refine kAst hx hb hKK hP hD hS 3 rfl ig4 eg4 dX5_replaceParameters_30 (fun H locs hP hD hS => ?_)
          have hP : va_P D vwCl (W_m_d cI cM a_m a_m_type a_m_name a_m_arity a_m_keys a_m_defaults a_d a_d_sources a_d_keys a_d_defaults m_count m_type m_name g4 m_keys m_defaults d_open d_method d_family d_oldCount d_keptSet d_count d_sources d_keys d_defaults d_usedKeys) H := hP
          have hD : va_D _ (W_m_d cI cM a_m a_m_type a_m_name a_m_arity a_m_keys a_m_defaults a_d a_d_sources a_d_keys a_d_defaults m_count m_type m_name g4 m_keys m_defaults d_open d_method d_family d_oldCount d_keptSet d_count d_sources d_keys d_defaults d_usedKeys) := hD
          refine lv_iconst (v := 0) hx hb dX5_replaceParameters_31 (by decide) ?_
          refine lv_istore_n (lv' := [(3, .int 0), (0, .ref a_m), (1, .ref a_d), (2, .int y2)]) hx hb dX5_replaceParameters_32 rfl hl (by decide) rfl (fun ls hl => ?_)
          exact F33 (fun w_m_arity w_m_keys w_m_defaults u2 => lX5_replaceParameters_2 m_count d_family d_count d_keys d_defaults n w_m_arity w_m_keys w_m_defaults u2) (fun H locs w_m_arity w_m_keys w_m_defaults u2 h hP hD hS ls hl => ih H locs w_m_arity w_m_keys w_m_defaults u2 h hP hD hS ls hl) 5000 H locs g4 m_keys m_defaults y2 0 h hP hD hS ls (lv_sub (l' := [(0, .ref a_m), (1, .ref a_d), (2, .int y2), (3, .int 0)]) hl [1, 2, 3, 0] rfl)
  unfold fX5_replaceParameters at h
  refine lv_iconst (v := 0) hx hb dX5_replaceParameters_0 (by decide) ?_
  refine lv_istore_n (lv' := [(2, .int 0), (0, .ref a_m), (1, .ref a_d)]) hx hb dX5_replaceParameters_1 rfl hl (by decide) rfl (fun ls hl => ?_)
  exact F2 5000 s.heap [] m_arity m_keys m_defaults 0 h hP hD hS ls (lv_sub (l' := [(0, .ref a_m), (1, .ref a_d), (2, .int 0)]) hl [1, 2, 0] rfl)
set_option maxHeartbeats 8000000 in
set_option maxRecDepth 100000 in
theorem qX7_connectedWith (l : Launch) (D : va_G) (cI cM : ClassId) (a_t a_t_supertypes : Nat) (t_count : Int32) (t_interfaceSet : Int32) (t_supertypes : Nat → Int32) (x1 : Int32) (r : Int32) (h : fX7_connectedWith t_count t_supertypes x1 = some r) : PM l yX7_connectedWith wsX7_connectedWith rmX7_connectedWith D cI cM [.ref a_t, .int x1] (W_t cI cM a_t a_t_supertypes t_count t_interfaceSet t_supertypes) r := by
  refine PM.of (cc := cX7_connectedWith) (maxL := 4) (ret := (some .int)) (by decide) rfl (Nat.le_of_ble_eq_true rfl) ?_
  intro p e s m below meth c ls hx hb hr hml hown hts hlk hP hKK hl
  have hown : s.vm.findClass RX7 = some m.cls := hown
  have hl : lv_has ls 4 [(0, .ref a_t), (1, .int x1)] := hl
  generalize hav : ([.ref a_t, .int x1] : List Value) = av at hts ⊢
  have SS : CallFix p m c cX7_connectedWith 4 s av.toArray wsX7_connectedWith RX7 := ⟨hx, hb, hml, hown, hts⟩
  have hinX7 : ∀ w ∈ u_ws RX7 TX7 3, w ∈ wsX7_connectedWith := by decide +kernel
  have lk9 := hts (.fieldLink RX7 9 "SignatureChanger$Types" "supertypes" "[I") (List.mem_of_getElem? (i := 2) rfl)
  have lk15 := hts (.fieldLink RX7 15 "SignatureChanger$Types" "count" "I") (List.mem_of_getElem? (i := 1) rfl)
  have F4 : ∀ (n : Nat) (y1 : Int32) (y2 : Int32) (y3 : Int32), lX7_connectedWith_4 t_count t_supertypes n y1 y2 y3 = some r → ∀ ls : Array Slot, lv_has ls 4 [(0, .ref a_t), (1, .int y1), (2, .int y2), (3, .int y3)] → WP p l e rmX7_connectedWith s m av below meth c r 4 ls [] := by
    intro n
    induction n with
    | zero => intro y1 y2 y3 h; exact no_some h
    | succ n ih =>
      intro y1 y2 y3 h ls hl
      rw [lX7_connectedWith_4_s] at h
      refine lv_iload_n hx hb dX7_connectedWith_4 rfl (lv_at hl 3 rfl) ?_
      refine lv_aload_n hx hb dX7_connectedWith_5 rfl (lv_at hl 0 rfl) ?_
      refine va_get (D := D) (ci := 7) (v := .int t_count) (C := RX7) (T := TX7) (N := 3) hx hb hts hinX7 hown hKK.1 hP 0 rfl rfl 0 (by decide) lk15 (fun _ h9 => h9) rfl dX7_connectedWith_6 ?_
      refine lv_icmp_ge (tgt := 38) hx hb dX7_connectedWith_9 (by decide) (fun c1 => ?_) (fun c1 => ?_)
      · have h := ifp h c1
        refine lv_iload_n hx hb dX7_connectedWith_38 rfl (lv_at hl 2 rfl) ?_
        exact kRet hx hb hr hlk (Option.some.inj h) dX7_connectedWith_39
      · have h := ifn h c1
        refine lv_aload_n hx hb dX7_connectedWith_12 rfl (lv_at hl 0 rfl) ?_
        refine va_get (D := D) (ci := 7) (v := .ref a_t_supertypes) (C := RX7) (T := TX7) (N := 3) hx hb hts hinX7 hown hKK.1 hP 0 rfl rfl 2 (by decide) lk9 (fun _ h9 => h9) rfl dX7_connectedWith_13 ?_
        refine lv_iload_n hx hb dX7_connectedWith_16 rfl (lv_at hl 3 rfl) ?_
        obtain ⟨v2, iv2, ev2, h⟩ := rd_some h
        refine kAld hx hb hKK hP 1 rfl iv2 ev2 dX7_connectedWith_17 ?_
        refine lv_iload_n hx hb dX7_connectedWith_18 rfl (lv_at hl 1 rfl) ?_
        refine lv_iand hx hb dX7_connectedWith_19 ?_
        refine lv_if_eq (tgt := 32) hx hb dX7_connectedWith_20 (by decide) (fun c3 => ?_) (fun c3 => ?_)
        · have h := ifp h c3
          refine lv_iinc (v := y3 + 1) (lv' := [(3, .int (y3 + 1)), (0, .ref a_t), (1, .int y1), (2, .int y2)]) hx hb dX7_connectedWith_32 hl (k := 3) rfl rfl (by decide) rfl (fun ls hl => ?_)
          refine lv_goto (tgt := 4) hx hb dX7_connectedWith_35 (by decide) ?_
          exact ih y1 y2 (y3 + 1) h ls (lv_sub (l' := [(0, .ref a_t), (1, .int y1), (2, .int y2), (3, .int (y3 + 1))]) hl [1, 2, 3, 0] rfl)
        · have h := ifn h c3
          refine lv_iload_n hx hb dX7_connectedWith_23 rfl (lv_at hl 2 rfl) ?_
          refine lv_aload_n hx hb dX7_connectedWith_24 rfl (lv_at hl 0 rfl) ?_
          refine va_get (D := D) (ci := 7) (v := .ref a_t_supertypes) (C := RX7) (T := TX7) (N := 3) hx hb hts hinX7 hown hKK.1 hP 0 rfl rfl 2 (by decide) lk9 (fun _ h9 => h9) rfl dX7_connectedWith_25 ?_
          refine lv_iload_n hx hb dX7_connectedWith_28 rfl (lv_at hl 3 rfl) ?_
          obtain ⟨v4, iv4, ev4, h⟩ := rd_some h
          refine kAld hx hb hKK hP 1 rfl iv4 ev4 dX7_connectedWith_29 ?_
          refine lv_ior hx hb dX7_connectedWith_30 ?_
          refine lv_istore_n (lv' := [(2, .int (y2 ||| v4)), (0, .ref a_t), (1, .int y1), (3, .int y3)]) hx hb dX7_connectedWith_31 rfl hl (by decide) rfl (fun ls hl => ?_)
          refine lv_iinc (v := y3 + 1) (lv' := [(3, .int (y3 + 1)), (2, .int (y2 ||| v4)), (0, .ref a_t), (1, .int y1)]) hx hb dX7_connectedWith_32 hl (k := 3) rfl rfl (by decide) rfl (fun ls hl => ?_)
          refine lv_goto (tgt := 4) hx hb dX7_connectedWith_35 (by decide) ?_
          exact ih y1 (y2 ||| v4) (y3 + 1) h ls (lv_sub (l' := [(0, .ref a_t), (1, .int y1), (2, .int (y2 ||| v4)), (3, .int (y3 + 1))]) hl [2, 3, 1, 0] rfl)
  unfold fX7_connectedWith at h
  refine lv_iconst (v := 0) hx hb dX7_connectedWith_0 (by decide) ?_
  refine lv_istore_n (lv' := [(2, .int 0), (0, .ref a_t), (1, .int x1)]) hx hb dX7_connectedWith_1 rfl hl (by decide) rfl (fun ls hl => ?_)
  refine lv_iconst (v := 0) hx hb dX7_connectedWith_2 (by decide) ?_
  refine lv_istore_n (lv' := [(3, .int 0), (2, .int 0), (0, .ref a_t), (1, .int x1)]) hx hb dX7_connectedWith_3 rfl hl (by decide) rfl (fun ls hl => ?_)
  exact F4 5000 x1 0 0 h ls (lv_sub (l' := [(0, .ref a_t), (1, .int x1), (2, .int 0), (3, .int 0)]) hl [2, 3, 1, 0] rfl)
set_option maxHeartbeats 8000000 in
set_option maxRecDepth 100000 in
theorem qX6_familyOf (l : Launch) (D : va_G) (cI cM : ClassId) (a_o a_t a_t_supertypes a_m a_m_type a_m_name a_m_arity a_m_keys a_m_defaults a_k a_k_staticType a_k_dynamicType a_k_target a_k_argumentCounts a_k_temporaryCounts a_k_keys a_k_kinds a_k_values a_k_temporaryKinds a_k_newKinds a_k_newValues : Nat) (t_count : Int32) (t_interfaceSet : Int32) (t_supertypes : Nat → Int32) (m_count : Int32) (m_type : Nat → Int32) (m_name : Nat → Int32) (m_arity : Nat → Int32) (m_keys : Nat → Int32) (m_defaults : Nat → Int32) (k_count : Int32) (k_frozenSet : Int32) (k_staticType : Nat → Int32) (k_dynamicType : Nat → Int32) (k_target : Nat → Int32) (k_argumentCounts : Nat → Int32) (k_temporaryCounts : Nat → Int32) (k_keys : Nat → Int32) (k_kinds : Nat → Int32) (k_values : Nat → Int32) (k_temporaryKinds : Nat → Int32) (k_newKinds : Nat → Int32) (k_newValues : Nat → Int32) (x1 : Int32) (r : Int32) (h : fX6_familyOf t_count t_supertypes m_count m_type m_name m_arity x1 = some r) : PM l yX6_familyOf wsX6_familyOf rmX6_familyOf D cI cM [.ref a_o, .int x1] (W_o_t_m_k cI cM a_o a_t a_t_supertypes a_m a_m_type a_m_name a_m_arity a_m_keys a_m_defaults a_k a_k_staticType a_k_dynamicType a_k_target a_k_argumentCounts a_k_temporaryCounts a_k_keys a_k_kinds a_k_values a_k_temporaryKinds a_k_newKinds a_k_newValues t_count t_interfaceSet t_supertypes m_count m_type m_name m_arity m_keys m_defaults k_count k_frozenSet k_staticType k_dynamicType k_target k_argumentCounts k_temporaryCounts k_keys k_kinds k_values k_temporaryKinds k_newKinds k_newValues) r := by
  refine PM.of (cc := cX6_familyOf) (maxL := 8) (ret := (some .int)) (by decide) rfl (Nat.le_of_ble_eq_true rfl) ?_
  intro p e s m below meth c ls hx hb hr hml hown hts hlk hP hKK hl
  have hown : s.vm.findClass RX6 = some m.cls := hown
  have hl : lv_has ls 8 [(0, .ref a_o), (1, .int x1)] := hl
  generalize hav : ([.ref a_o, .int x1] : List Value) = av at hts ⊢
  have SS : CallFix p m c cX6_familyOf 8 s av.toArray wsX6_familyOf RX6 := ⟨hx, hb, hml, hown, hts⟩
  have hinX5 : ∀ w ∈ u_ws RX5 TX5 6, w ∈ wsX6_familyOf := by decide +kernel
  have hinX6 : ∀ w ∈ u_ws RX6 TX6 3, w ∈ wsX6_familyOf := by decide +kernel
  have lk12 := hts (.fieldLink RX6 12 "SignatureChanger$Model" "types" "LSignatureChanger$Types;") (List.mem_of_getElem? (i := 5) rfl)
  have lk21 := hts (.fieldLink RX6 21 "SignatureChanger$Model" "methods" "LSignatureChanger$Methods;") (List.mem_of_getElem? (i := 1) rfl)
  have lk42 := hts (.fieldLink RX6 42 "SignatureChanger$Methods" "name" "[I") (List.mem_of_getElem? (i := 2) rfl)
  have lk46 := hts (.fieldLink RX6 46 "SignatureChanger$Methods" "arity" "[I") (List.mem_of_getElem? (i := 3) rfl)
  have lk53 := hts (.fieldLink RX6 53 "SignatureChanger$Methods" "count" "I") (List.mem_of_getElem? (i := 4) rfl)
  have cw49 : va_CN rmX6_familyOf s av.toArray RX6 49 yX8_bit RX8 cX8_bit 1 (some .int) wsX8_bit rmX8_bit 0 0 1 ∧ (Cond.static yX8_bit).before av.toArray s = true ∧ True := ⟨va_cnB 1 hts gX6_familyOf_X8_bit_n49 rfl rfl rfl (hKK.2.at 16 rfl) (hts (.initialized RX8) (List.mem_of_getElem? (i := 7) rfl)) (by decide +kernel) ⟨Nat.le_of_ble_eq_true rfl, Nat.le_of_ble_eq_true rfl⟩, hts (.static yX8_bit) (List.mem_of_getElem? (i := 6) rfl), trivial⟩
  have cw57 : CallW rmX6_familyOf s av.toArray RX6 RX5 57 yX5_typesOf cX5_typesOf 4 (some .int) wsX5_typesOf rmX5_typesOf 0 0 1 := cwV 1 hts gX6_familyOf_X5_typesOf rfl rfl rfl (by decide +kernel) ⟨Nat.le_of_ble_eq_true rfl, Nat.le_of_ble_eq_true rfl⟩
  have cw60 : CallW rmX6_familyOf s av.toArray RX6 RX7 60 yX7_connectedWith cX7_connectedWith 4 (some .int) wsX7_connectedWith rmX7_connectedWith 0 0 1 := cwV 1 hts gX6_familyOf_X7_connectedWith rfl rfl rfl (by decide +kernel) ⟨Nat.le_of_ble_eq_true rfl, Nat.le_of_ble_eq_true rfl⟩
  have cw63 : CallW rmX6_familyOf s av.toArray RX6 RX5 63 yX5_withSignature cX5_withSignature 7 (some .int) wsX5_withSignature rmX5_withSignature 0 0 3 := cwV 3 hts gX6_familyOf_X5_withSignature rfl rfl rfl (by decide +kernel) ⟨Nat.le_of_ble_eq_true rfl, Nat.le_of_ble_eq_true rfl⟩
  have F29 : ∀ (n : Nat) (y2 : Int32) (y3 : Int32) (y4 : Int32) (y5 : Int32), lX6_familyOf_29 t_count t_supertypes m_count m_type m_name m_arity n y2 y3 y4 y5 = some r → ∀ ls : Array Slot, lv_has ls 8 [(0, .ref a_o), (2, .int y2), (3, .int y3), (4, .int y4), (5, .int y5)] → WP p l e rmX6_familyOf s m av below meth c r 29 ls [] := by
    intro n
    induction n with
    | zero => intro y2 y3 y4 y5 h; exact no_some h
    | succ n ih =>
      intro y2 y3 y4 y5 h ls hl
      rw [lX6_familyOf_29_s] at h
      refine lv_iload hx hb dX6_familyOf_29 (lv_at hl 4 rfl) ?_
      refine lv_aload_n hx hb dX6_familyOf_31 rfl (lv_at hl 0 rfl) ?_
      refine va_get (D := D) (ci := 6) (v := .ref a_m) (C := RX6) (T := TX6) (N := 3) hx hb hts hinX6 hown hKK.1 hP 0 rfl rfl 1 (by decide) lk21 (fun _ h9 => h9) rfl dX6_familyOf_32 ?_
      refine va_get (D := D) (ci := 5) (v := .int m_count) (C := RX5) (T := TX5) (N := 6) hx hb hts hinX5 hown hKK.1 hP 3 rfl rfl 0 (by decide) lk53 (fun _ h9 => h9) rfl dX6_familyOf_35 ?_
      refine lv_icmp_ge (tgt := 92) hx hb dX6_familyOf_38 (by decide) (fun c1 => ?_) (fun c1 => ?_)
      · have h := ifp h c1
        refine lv_iload hx hb dX6_familyOf_92 (lv_at hl 3 rfl) ?_
        exact kRet hx hb hr hlk (Option.some.inj h) dX6_familyOf_94
      · have h := ifn h c1
        refine lv_aload_n hx hb dX6_familyOf_41 rfl (lv_at hl 0 rfl) ?_
        refine va_get (D := D) (ci := 6) (v := .ref a_t) (C := RX6) (T := TX6) (N := 3) hx hb hts hinX6 hown hKK.1 hP 0 rfl rfl 0 (by decide) lk12 (fun _ h9 => h9) rfl dX6_familyOf_42 ?_
        refine lv_aload_n hx hb dX6_familyOf_45 rfl (lv_at hl 0 rfl) ?_
        refine va_get (D := D) (ci := 6) (v := .ref a_m) (C := RX6) (T := TX6) (N := 3) hx hb hts hinX6 hown hKK.1 hP 0 rfl rfl 1 (by decide) lk21 (fun _ h9 => h9) rfl dX6_familyOf_46 ?_
        refine lv_iload hx hb dX6_familyOf_49 (lv_at hl 3 rfl) ?_
        obtain ⟨v2, ev2, h⟩ := bn_some h
        have hs3 : va_P D vwCl (W_m cI cM a_m a_m_type a_m_name a_m_arity a_m_keys a_m_defaults m_count m_type m_name m_arity m_keys m_defaults) _ := blkP (Bs := [B_o cI cM a_o a_t a_m a_k , B_t cI cM a_t a_t_supertypes t_count t_interfaceSet t_supertypes, B_m cI cM a_m a_m_type a_m_name a_m_arity a_m_keys a_m_defaults m_count m_type m_name m_arity m_keys m_defaults, B_k cI cM a_k a_k_staticType a_k_dynamicType a_k_target a_k_argumentCounts a_k_temporaryCounts a_k_keys a_k_kinds a_k_values a_k_temporaryKinds a_k_newKinds a_k_newValues k_count k_frozenSet k_staticType k_dynamicType k_target k_argumentCounts k_temporaryCounts k_keys k_kinds k_values k_temporaryKinds k_newKinds k_newValues]) hP [2] (C0 := [B_m cI cM a_m a_m_type a_m_name a_m_arity a_m_keys a_m_defaults m_count m_type m_name m_arity m_keys m_defaults]) rfl rfl
        refine kV (As := [.int y4]) (rest := [.ref a_t]) SS hKK (qX5_typesOf l D cI cM a_m a_m_type a_m_name a_m_arity a_m_keys a_m_defaults m_count m_type m_name m_arity m_keys m_defaults y4 v2 ev2) cw57 hs3 0 5 rfl rfl rfl hl.1 rfl (Nat.le_of_ble_eq_true rfl) dX6_familyOf_51 ⟨Nat.zero_le _, Nat.zero_le _⟩ ?_
        obtain ⟨v4, ev4, h⟩ := bn_some h
        have hs5 : va_P D vwCl (W_t cI cM a_t a_t_supertypes t_count t_interfaceSet t_supertypes) _ := blkP (Bs := [B_o cI cM a_o a_t a_m a_k , B_t cI cM a_t a_t_supertypes t_count t_interfaceSet t_supertypes, B_m cI cM a_m a_m_type a_m_name a_m_arity a_m_keys a_m_defaults m_count m_type m_name m_arity m_keys m_defaults, B_k cI cM a_k a_k_staticType a_k_dynamicType a_k_target a_k_argumentCounts a_k_temporaryCounts a_k_keys a_k_kinds a_k_values a_k_temporaryKinds a_k_newKinds a_k_newValues k_count k_frozenSet k_staticType k_dynamicType k_target k_argumentCounts k_temporaryCounts k_keys k_kinds k_values k_temporaryKinds k_newKinds k_newValues]) hP [1] (C0 := [B_t cI cM a_t a_t_supertypes t_count t_interfaceSet t_supertypes]) rfl rfl
        refine kV (As := [.int v2]) (rest := []) SS hKK (qX7_connectedWith l D cI cM a_t a_t_supertypes t_count t_interfaceSet t_supertypes v2 v4 ev4) cw60 hs5 0 7 rfl rfl rfl hl.1 rfl (Nat.le_of_ble_eq_true rfl) dX6_familyOf_54 ⟨Nat.zero_le _, Nat.zero_le _⟩ ?_
        refine lv_istore (lv' := [(6, .int v4), (0, .ref a_o), (2, .int y2), (3, .int y3), (4, .int y4), (5, .int y5)]) hx hb dX6_familyOf_57 hl (by decide) rfl (fun ls hl => ?_)
        refine lv_aload_n hx hb dX6_familyOf_59 rfl (lv_at hl 1 rfl) ?_
        refine va_get (D := D) (ci := 6) (v := .ref a_m) (C := RX6) (T := TX6) (N := 3) hx hb hts hinX6 hown hKK.1 hP 0 rfl rfl 1 (by decide) lk21 (fun _ h9 => h9) rfl dX6_familyOf_60 ?_
        refine lv_iload_n hx hb dX6_familyOf_63 rfl (lv_at hl 2 rfl) ?_
        refine lv_iload_n hx hb dX6_familyOf_64 rfl (lv_at hl 3 rfl) ?_
        refine lv_iload hx hb dX6_familyOf_65 (lv_at hl 0 rfl) ?_
        obtain ⟨v6, ev6, h⟩ := bn_some h
        refine kV (As := [.int y2, .int y3, .int v4]) (rest := []) SS hKK (qX5_withSignature l D cI cM a_m a_m_type a_m_name a_m_arity a_m_keys a_m_defaults m_count m_type m_name m_arity m_keys m_defaults y2 y3 v4 v6 ev6) cw63 hs3 0 5 rfl rfl rfl hl.1 rfl (Nat.le_of_ble_eq_true rfl) dX6_familyOf_67 ⟨Nat.zero_le _, Nat.zero_le _⟩ ?_
        refine lv_istore (lv' := [(7, .int v6), (6, .int v4), (0, .ref a_o), (2, .int y2), (3, .int y3), (4, .int y4), (5, .int y5)]) hx hb dX6_familyOf_70 hl (by decide) rfl (fun ls hl => ?_)
        refine lv_iload hx hb dX6_familyOf_72 (lv_at hl 0 rfl) ?_
        refine lv_iload hx hb dX6_familyOf_74 (lv_at hl 5 rfl) ?_
        refine lv_icmp_ne (tgt := 82) hx hb dX6_familyOf_76 (by decide) (fun c7 => ?_) (fun c7 => ?_)
        · have h := ifn h c7
          refine lv_iload hx hb dX6_familyOf_82 (lv_at hl 0 rfl) ?_
          refine lv_istore (lv' := [(4, .int v6), (7, .int v6), (6, .int v4), (0, .ref a_o), (2, .int y2), (3, .int y3), (5, .int y5)]) hx hb dX6_familyOf_84 hl (by decide) rfl (fun ls hl => ?_)
          refine lv_iinc (v := y5 + 1) (lv' := [(5, .int (y5 + 1)), (4, .int v6), (7, .int v6), (6, .int v4), (0, .ref a_o), (2, .int y2), (3, .int y3)]) hx hb dX6_familyOf_86 hl (k := 6) rfl rfl (by decide) rfl (fun ls hl => ?_)
          refine lv_goto (tgt := 29) hx hb dX6_familyOf_89 (by decide) ?_
          exact ih y2 y3 v6 (y5 + 1) h ls (lv_sub (l' := [(0, .ref a_o), (2, .int y2), (3, .int y3), (4, .int v6), (5, .int (y5 + 1))]) hl [4, 5, 6, 1, 0] rfl)
        · have h := ifp h c7
          refine lv_goto (tgt := 92) hx hb dX6_familyOf_79 (by decide) ?_
          refine lv_iload hx hb dX6_familyOf_92 (lv_at hl 5 rfl) ?_
          exact kRet hx hb hr hlk (Option.some.inj h) dX6_familyOf_94
  unfold fX6_familyOf at h
  refine lv_aload_n hx hb dX6_familyOf_0 rfl (lv_at hl 0 rfl) ?_
  refine va_get (D := D) (ci := 6) (v := .ref a_m) (C := RX6) (T := TX6) (N := 3) hx hb hts hinX6 hown hKK.1 hP 0 rfl rfl 1 (by decide) lk21 (fun _ h9 => h9) rfl dX6_familyOf_1 ?_
  refine va_get (D := D) (ci := 5) (v := .ref a_m_name) (C := RX5) (T := TX5) (N := 6) hx hb hts hinX5 hown hKK.1 hP 3 rfl rfl 2 (by decide) lk42 (fun _ h9 => h9) rfl dX6_familyOf_4 ?_
  refine lv_iload_n hx hb dX6_familyOf_7 rfl (lv_at hl 1 rfl) ?_
  obtain ⟨v1, iv1, ev1, h⟩ := rd_some h
  refine kAld hx hb hKK hP 5 rfl iv1 ev1 dX6_familyOf_8 ?_
  refine lv_istore_n (lv' := [(2, .int v1), (0, .ref a_o), (1, .int x1)]) hx hb dX6_familyOf_9 rfl hl (by decide) rfl (fun ls hl => ?_)
  refine lv_aload_n hx hb dX6_familyOf_10 rfl (lv_at hl 1 rfl) ?_
  refine va_get (D := D) (ci := 6) (v := .ref a_m) (C := RX6) (T := TX6) (N := 3) hx hb hts hinX6 hown hKK.1 hP 0 rfl rfl 1 (by decide) lk21 (fun _ h9 => h9) rfl dX6_familyOf_11 ?_
  refine va_get (D := D) (ci := 5) (v := .ref a_m_arity) (C := RX5) (T := TX5) (N := 6) hx hb hts hinX5 hown hKK.1 hP 3 rfl rfl 3 (by decide) lk46 (fun _ h9 => h9) rfl dX6_familyOf_14 ?_
  refine lv_iload_n hx hb dX6_familyOf_17 rfl (lv_at hl 2 rfl) ?_
  obtain ⟨v2, iv2, ev2, h⟩ := rd_some h
  refine kAld hx hb hKK hP 6 rfl iv2 ev2 dX6_familyOf_18 ?_
  refine lv_istore_n (lv' := [(3, .int v2), (2, .int v1), (0, .ref a_o), (1, .int x1)]) hx hb dX6_familyOf_19 rfl hl (by decide) rfl (fun ls hl => ?_)
  refine lv_iload_n hx hb dX6_familyOf_20 rfl (lv_at hl 3 rfl) ?_
  obtain ⟨v3, ev3, h⟩ := bn_some h
  refine kSN (As := [.int x1]) (rest := []) SS hKK (qX8_bit l D cI cM x1 v3 ev3) cw49 va_P_nil rfl hl.1 rfl (Nat.le_of_ble_eq_true rfl) dX6_familyOf_21 ⟨Nat.zero_le _, Nat.zero_le _⟩ ?_
  refine lv_istore (lv' := [(4, .int v3), (3, .int v2), (2, .int v1), (0, .ref a_o), (1, .int x1)]) hx hb dX6_familyOf_24 hl (by decide) rfl (fun ls hl => ?_)
  refine lv_iconst (v := 0) hx hb dX6_familyOf_26 (by decide) ?_
  refine lv_istore (lv' := [(5, .int 0), (4, .int v3), (3, .int v2), (2, .int v1), (0, .ref a_o), (1, .int x1)]) hx hb dX6_familyOf_27 hl (by decide) rfl (fun ls hl => ?_)
  exact F29 5000 v1 v2 v3 0 h ls (lv_sub (l' := [(0, .ref a_o), (2, .int v1), (3, .int v2), (4, .int v3), (5, .int 0)]) hl [4, 3, 2, 1, 0] rfl)
set_option maxHeartbeats 8000000 in
set_option maxRecDepth 100000 in
theorem qX6_targetFor (l : Launch) (D : va_G) (cI cM : ClassId) (a_o a_t a_t_supertypes a_m a_m_type a_m_name a_m_arity a_m_keys a_m_defaults a_k a_k_staticType a_k_dynamicType a_k_target a_k_argumentCounts a_k_temporaryCounts a_k_keys a_k_kinds a_k_values a_k_temporaryKinds a_k_newKinds a_k_newValues : Nat) (t_count : Int32) (t_interfaceSet : Int32) (t_supertypes : Nat → Int32) (m_count : Int32) (m_type : Nat → Int32) (m_name : Nat → Int32) (m_arity : Nat → Int32) (m_keys : Nat → Int32) (m_defaults : Nat → Int32) (k_count : Int32) (k_frozenSet : Int32) (k_staticType : Nat → Int32) (k_dynamicType : Nat → Int32) (k_target : Nat → Int32) (k_argumentCounts : Nat → Int32) (k_temporaryCounts : Nat → Int32) (k_keys : Nat → Int32) (k_kinds : Nat → Int32) (k_values : Nat → Int32) (k_temporaryKinds : Nat → Int32) (k_newKinds : Nat → Int32) (k_newValues : Nat → Int32) (x1 : Int32) (x2 : Int32) (x3 : Int32) (r : Int32) (h : fX6_targetFor t_supertypes m_count m_type m_name m_arity x1 x2 x3 = some r) : PM l yX6_targetFor wsX6_targetFor rmX6_targetFor D cI cM [.ref a_o, .int x1, .int x2, .int x3] (W_o_t_m_k cI cM a_o a_t a_t_supertypes a_m a_m_type a_m_name a_m_arity a_m_keys a_m_defaults a_k a_k_staticType a_k_dynamicType a_k_target a_k_argumentCounts a_k_temporaryCounts a_k_keys a_k_kinds a_k_values a_k_temporaryKinds a_k_newKinds a_k_newValues t_count t_interfaceSet t_supertypes m_count m_type m_name m_arity m_keys m_defaults k_count k_frozenSet k_staticType k_dynamicType k_target k_argumentCounts k_temporaryCounts k_keys k_kinds k_values k_temporaryKinds k_newKinds k_newValues) r := by
  refine PM.of (cc := cX6_targetFor) (maxL := 4) (ret := (some .int)) (by decide) rfl (Nat.le_of_ble_eq_true rfl) ?_
  intro p e s m below meth c ls hx hb hr hml hown hts hlk hP hKK hl
  have hown : s.vm.findClass RX6 = some m.cls := hown
  have hl : lv_has ls 4 [(0, .ref a_o), (1, .int x1), (2, .int x2), (3, .int x3)] := hl
  generalize hav : ([.ref a_o, .int x1, .int x2, .int x3] : List Value) = av at hts ⊢
  have SS : CallFix p m c cX6_targetFor 4 s av.toArray wsX6_targetFor RX6 := ⟨hx, hb, hml, hown, hts⟩
  have hinX6 : ∀ w ∈ u_ws RX6 TX6 3, w ∈ wsX6_targetFor := by decide +kernel
  have hinX7 : ∀ w ∈ u_ws RX7 TX7 3, w ∈ wsX6_targetFor := by decide +kernel
  have lk12 := hts (.fieldLink RX6 12 "SignatureChanger$Model" "types" "LSignatureChanger$Types;") (List.mem_of_getElem? (i := 2) rfl)
  have lk21 := hts (.fieldLink RX6 21 "SignatureChanger$Model" "methods" "LSignatureChanger$Methods;") (List.mem_of_getElem? (i := 1) rfl)
  have lk67 := hts (.fieldLink RX6 67 "SignatureChanger$Types" "supertypes" "[I") (List.mem_of_getElem? (i := 3) rfl)
  have cw63 : CallW rmX6_targetFor s av.toArray RX6 RX5 63 yX5_withSignature cX5_withSignature 7 (some .int) wsX5_withSignature rmX5_withSignature 0 0 3 := cwV 3 hts gX6_targetFor_X5_withSignature rfl rfl rfl (by decide +kernel) ⟨Nat.le_of_ble_eq_true rfl, Nat.le_of_ble_eq_true rfl⟩
  have cw70 : CallW rmX6_targetFor s av.toArray RX6 RX5 70 yX5_smallest cX5_smallest 3 (some .int) wsX5_smallest rmX5_smallest 0 0 1 := cwV 1 hts gX6_targetFor_X5_smallest rfl rfl rfl (by decide +kernel) ⟨Nat.le_of_ble_eq_true rfl, Nat.le_of_ble_eq_true rfl⟩
  unfold fX6_targetFor at h
  refine lv_aload_n hx hb dX6_targetFor_0 rfl (lv_at hl 0 rfl) ?_
  refine va_get (D := D) (ci := 6) (v := .ref a_m) (C := RX6) (T := TX6) (N := 3) hx hb hts hinX6 hown hKK.1 hP 0 rfl rfl 1 (by decide) lk21 (fun _ h9 => h9) rfl dX6_targetFor_1 ?_
  refine lv_aload_n hx hb dX6_targetFor_4 rfl (lv_at hl 0 rfl) ?_
  refine va_get (D := D) (ci := 6) (v := .ref a_m) (C := RX6) (T := TX6) (N := 3) hx hb hts hinX6 hown hKK.1 hP 0 rfl rfl 1 (by decide) lk21 (fun _ h9 => h9) rfl dX6_targetFor_5 ?_
  refine lv_iload_n hx hb dX6_targetFor_8 rfl (lv_at hl 2 rfl) ?_
  refine lv_iload_n hx hb dX6_targetFor_9 rfl (lv_at hl 3 rfl) ?_
  refine lv_aload_n hx hb dX6_targetFor_10 rfl (lv_at hl 0 rfl) ?_
  refine va_get (D := D) (ci := 6) (v := .ref a_t) (C := RX6) (T := TX6) (N := 3) hx hb hts hinX6 hown hKK.1 hP 0 rfl rfl 0 (by decide) lk12 (fun _ h9 => h9) rfl dX6_targetFor_11 ?_
  refine va_get (D := D) (ci := 7) (v := .ref a_t_supertypes) (C := RX7) (T := TX7) (N := 3) hx hb hts hinX7 hown hKK.1 hP 1 rfl rfl 2 (by decide) lk67 (fun _ h9 => h9) rfl dX6_targetFor_14 ?_
  refine lv_iload_n hx hb dX6_targetFor_17 rfl (lv_at hl 1 rfl) ?_
  obtain ⟨v1, iv1, ev1, h⟩ := rd_some h
  refine kAld hx hb hKK hP 2 rfl iv1 ev1 dX6_targetFor_18 ?_
  obtain ⟨v2, ev2, h⟩ := bn_some h
  have hs3 : va_P D vwCl (W_m cI cM a_m a_m_type a_m_name a_m_arity a_m_keys a_m_defaults m_count m_type m_name m_arity m_keys m_defaults) _ := blkP (Bs := [B_o cI cM a_o a_t a_m a_k , B_t cI cM a_t a_t_supertypes t_count t_interfaceSet t_supertypes, B_m cI cM a_m a_m_type a_m_name a_m_arity a_m_keys a_m_defaults m_count m_type m_name m_arity m_keys m_defaults, B_k cI cM a_k a_k_staticType a_k_dynamicType a_k_target a_k_argumentCounts a_k_temporaryCounts a_k_keys a_k_kinds a_k_values a_k_temporaryKinds a_k_newKinds a_k_newValues k_count k_frozenSet k_staticType k_dynamicType k_target k_argumentCounts k_temporaryCounts k_keys k_kinds k_values k_temporaryKinds k_newKinds k_newValues]) hP [2] (C0 := [B_m cI cM a_m a_m_type a_m_name a_m_arity a_m_keys a_m_defaults m_count m_type m_name m_arity m_keys m_defaults]) rfl rfl
  refine kV (As := [.int x2, .int x3, .int v1]) (rest := [.ref a_m]) SS hKK (qX5_withSignature l D cI cM a_m a_m_type a_m_name a_m_arity a_m_keys a_m_defaults m_count m_type m_name m_arity m_keys m_defaults x2 x3 v1 v2 ev2) cw63 hs3 0 5 rfl rfl rfl hl.1 rfl (Nat.le_of_ble_eq_true rfl) dX6_targetFor_19 ⟨Nat.zero_le _, Nat.zero_le _⟩ ?_
  obtain ⟨v4, ev4, h⟩ := bn_some h
  refine kV (As := [.int v2]) (rest := []) SS hKK (qX5_smallest l D cI cM a_m a_m_type a_m_name a_m_arity a_m_keys a_m_defaults m_count m_type m_name m_arity m_keys m_defaults v2 v4 ev4) cw70 hs3 0 5 rfl rfl rfl hl.1 rfl (Nat.le_of_ble_eq_true rfl) dX6_targetFor_22 ⟨Nat.zero_le _, Nat.zero_le _⟩ ?_
  exact kRet hx hb hr hlk (Option.some.inj h) dX6_targetFor_25
set_option maxHeartbeats 8000000 in
set_option maxRecDepth 100000 in
theorem qX6_classMethod (l : Launch) (D : va_G) (cI cM : ClassId) (a_o a_t a_t_supertypes a_m a_m_type a_m_name a_m_arity a_m_keys a_m_defaults a_k a_k_staticType a_k_dynamicType a_k_target a_k_argumentCounts a_k_temporaryCounts a_k_keys a_k_kinds a_k_values a_k_temporaryKinds a_k_newKinds a_k_newValues : Nat) (t_count : Int32) (t_interfaceSet : Int32) (t_supertypes : Nat → Int32) (m_count : Int32) (m_type : Nat → Int32) (m_name : Nat → Int32) (m_arity : Nat → Int32) (m_keys : Nat → Int32) (m_defaults : Nat → Int32) (k_count : Int32) (k_frozenSet : Int32) (k_staticType : Nat → Int32) (k_dynamicType : Nat → Int32) (k_target : Nat → Int32) (k_argumentCounts : Nat → Int32) (k_temporaryCounts : Nat → Int32) (k_keys : Nat → Int32) (k_kinds : Nat → Int32) (k_values : Nat → Int32) (k_temporaryKinds : Nat → Int32) (k_newKinds : Nat → Int32) (k_newValues : Nat → Int32) (x1 : Int32) (x2 : Int32) (x3 : Int32) (r : Int32) (h : fX6_classMethod t_count m_count m_type m_name m_arity x1 x2 x3 = some r) : PM l yX6_classMethod wsX6_classMethod rmX6_classMethod D cI cM [.ref a_o, .int x1, .int x2, .int x3] (W_o_t_m_k cI cM a_o a_t a_t_supertypes a_m a_m_type a_m_name a_m_arity a_m_keys a_m_defaults a_k a_k_staticType a_k_dynamicType a_k_target a_k_argumentCounts a_k_temporaryCounts a_k_keys a_k_kinds a_k_values a_k_temporaryKinds a_k_newKinds a_k_newValues t_count t_interfaceSet t_supertypes m_count m_type m_name m_arity m_keys m_defaults k_count k_frozenSet k_staticType k_dynamicType k_target k_argumentCounts k_temporaryCounts k_keys k_kinds k_values k_temporaryKinds k_newKinds k_newValues) r := by
  refine PM.of (cc := cX6_classMethod) (maxL := 6) (ret := (some .int)) (by decide) rfl (Nat.le_of_ble_eq_true rfl) ?_
  intro p e s m below meth c ls hx hb hr hml hown hts hlk hP hKK hl
  have hown : s.vm.findClass RX6 = some m.cls := hown
  have hl : lv_has ls 6 [(0, .ref a_o), (1, .int x1), (2, .int x2), (3, .int x3)] := hl
  generalize hav : ([.ref a_o, .int x1, .int x2, .int x3] : List Value) = av at hts ⊢
  have SS : CallFix p m c cX6_classMethod 6 s av.toArray wsX6_classMethod RX6 := ⟨hx, hb, hml, hown, hts⟩
  have hinX6 : ∀ w ∈ u_ws RX6 TX6 3, w ∈ wsX6_classMethod := by decide +kernel
  have hinX7 : ∀ w ∈ u_ws RX7 TX7 3, w ∈ wsX6_classMethod := by decide +kernel
  have lk12 := hts (.fieldLink RX6 12 "SignatureChanger$Model" "types" "LSignatureChanger$Types;") (List.mem_of_getElem? (i := 1) rfl)
  have lk21 := hts (.fieldLink RX6 21 "SignatureChanger$Model" "methods" "LSignatureChanger$Methods;") (List.mem_of_getElem? (i := 3) rfl)
  have lk88 := hts (.fieldLink RX6 88 "SignatureChanger$Types" "count" "I") (List.mem_of_getElem? (i := 2) rfl)
  have cw89 : va_CN rmX6_classMethod s av.toArray RX6 89 yX8_contains RX8 cX8_contains 2 (some .boolean) wsX8_contains rmX8_contains 0 0 2 ∧ (Cond.static yX8_contains).before av.toArray s = true ∧ True := ⟨va_cnB 2 hts gX6_classMethod_X8_contains_n89 rfl rfl rfl (hKK.2.at 17 rfl) (hts (.initialized RX8) (List.mem_of_getElem? (i := 5) rfl)) (by decide +kernel) ⟨Nat.le_of_ble_eq_true rfl, Nat.le_of_ble_eq_true rfl⟩, hts (.static yX8_contains) (List.mem_of_getElem? (i := 4) rfl), trivial⟩
  have cw93 : CallW rmX6_classMethod s av.toArray RX6 RX5 93 yX5_declaredBy cX5_declaredBy 4 (some .int) wsX5_declaredBy rmX5_declaredBy 0 0 3 := cwV 3 hts gX6_classMethod_X5_declaredBy rfl rfl rfl (by decide +kernel) ⟨Nat.le_of_ble_eq_true rfl, Nat.le_of_ble_eq_true rfl⟩
  have F41 : ∀ (k11 : Int32 → Int32 → Int32 → Int32 → Option (Int32)) (hk11 : ∀ (u1 : Int32) (u2 : Int32) (u3 : Int32) (u4 : Int32), k11 u1 u2 u3 u4 = some r → ∀ ls : Array Slot, lv_has ls 6 [(0, .ref a_o), (1, .int u1), (2, .int u2), (3, .int u3), (4, .int u4)] → WP p l e rmX6_classMethod s m av below meth c r 11 ls []), ∀ (y1 : Int32) (y2 : Int32) (y3 : Int32) (y4 : Int32) (s0 : Int32), jX6_classMethod_41 t_count m_count m_type m_name m_arity k11 y1 y2 y3 y4 s0 = some r → ∀ ls : Array Slot, lv_has ls 6 [(0, .ref a_o), (1, .int y1), (2, .int y2), (3, .int y3), (4, .int y4)] → WP p l e rmX6_classMethod s m av below meth c r 41 ls [.int s0] := by
    intro k11 hk11
    intro y1 y2 y3 y4 s0 h ls hl
    unfold jX6_classMethod_41 at h
    refine lv_istore (lv' := [(5, .int s0), (0, .ref a_o), (1, .int y1), (2, .int y2), (3, .int y3), (4, .int y4)]) hx hb dX6_classMethod_41 hl (by decide) rfl (fun ls hl => ?_)
    refine lv_iload hx hb dX6_classMethod_43 (lv_at hl 0 rfl) ?_
    refine lv_bipush (v := (-9)) hx hb dX6_classMethod_45 (by decide) ?_
    refine lv_icmp_eq (tgt := 53) hx hb dX6_classMethod_47 (by decide) (fun c1 => ?_) (fun c1 => ?_)
    · have h := ifp h c1
      refine lv_iinc (v := y4 + (-1)) (lv' := [(4, .int (y4 + (-1))), (5, .int s0), (0, .ref a_o), (1, .int y1), (2, .int y2), (3, .int y3)]) hx hb dX6_classMethod_53 hl (k := 5) rfl rfl (by decide) rfl (fun ls hl => ?_)
      refine lv_goto (tgt := 11) hx hb dX6_classMethod_56 (by decide) ?_
      exact hk11 y1 y2 y3 (y4 + (-1)) h ls (lv_sub (l' := [(0, .ref a_o), (1, .int y1), (2, .int y2), (3, .int y3), (4, .int (y4 + (-1)))]) hl [2, 3, 4, 5, 0] rfl)
    · have h := ifn h c1
      refine lv_iload hx hb dX6_classMethod_50 (lv_at hl 0 rfl) ?_
      exact kRet hx hb hr hlk (Option.some.inj h) dX6_classMethod_52
  have F11 : ∀ (n : Nat) (y1 : Int32) (y2 : Int32) (y3 : Int32) (y4 : Int32), lX6_classMethod_11 t_count m_count m_type m_name m_arity n y1 y2 y3 y4 = some r → ∀ ls : Array Slot, lv_has ls 6 [(0, .ref a_o), (1, .int y1), (2, .int y2), (3, .int y3), (4, .int y4)] → WP p l e rmX6_classMethod s m av below meth c r 11 ls [] := by
    intro n
    induction n with
    | zero => intro y1 y2 y3 y4 h; exact no_some h
    | succ n ih =>
      intro y1 y2 y3 y4 h ls hl
      rw [lX6_classMethod_11_s] at h
      refine lv_iload hx hb dX6_classMethod_11 (lv_at hl 4 rfl) ?_
      refine lv_if_lt (tgt := 59) hx hb dX6_classMethod_13 (by decide) (fun c1 => ?_) (fun c1 => ?_)
      · have h := ifp h c1
        refine lv_bipush (v := (-9)) hx hb dX6_classMethod_59 (by decide) ?_
        exact kRet hx hb hr hlk (Option.some.inj h) dX6_classMethod_61
      · have h := ifn h c1
        refine lv_iload_n hx hb dX6_classMethod_16 rfl (lv_at hl 1 rfl) ?_
        refine lv_iload hx hb dX6_classMethod_17 (lv_at hl 4 rfl) ?_
        obtain ⟨v2, ev2, h⟩ := bn_some h
        refine kSN (As := [.int y1, .int y4]) (rest := []) SS hKK (qX8_contains l D cI cM y1 y4 v2 ev2) cw89 va_P_nil rfl hl.1 rfl (Nat.le_of_ble_eq_true rfl) dX6_classMethod_19 ⟨Nat.zero_le _, Nat.zero_le _⟩ ?_
        refine lv_if_eq (tgt := 39) hx hb dX6_classMethod_22 (by decide) (fun c3 => ?_) (fun c3 => ?_)
        · have h := ifp h c3
          refine lv_bipush (v := (-9)) hx hb dX6_classMethod_39 (by decide) ?_
          exact F41 (fun u1 u2 u3 u4 => lX6_classMethod_11 t_count m_count m_type m_name m_arity n u1 u2 u3 u4) (fun u1 u2 u3 u4 h ls hl => ih u1 u2 u3 u4 h ls hl) y1 y2 y3 y4 (-9) h ls (lv_sub (l' := [(0, .ref a_o), (1, .int y1), (2, .int y2), (3, .int y3), (4, .int y4)]) hl [0, 1, 2, 3, 4] rfl)
        · have h := ifn h c3
          refine lv_aload_n hx hb dX6_classMethod_25 rfl (lv_at hl 0 rfl) ?_
          refine va_get (D := D) (ci := 6) (v := .ref a_m) (C := RX6) (T := TX6) (N := 3) hx hb hts hinX6 hown hKK.1 hP 0 rfl rfl 1 (by decide) lk21 (fun _ h9 => h9) rfl dX6_classMethod_26 ?_
          refine lv_iload hx hb dX6_classMethod_29 (lv_at hl 4 rfl) ?_
          refine lv_iload_n hx hb dX6_classMethod_31 rfl (lv_at hl 2 rfl) ?_
          refine lv_iload_n hx hb dX6_classMethod_32 rfl (lv_at hl 3 rfl) ?_
          obtain ⟨v4, ev4, h⟩ := bn_some h
          have hs5 : va_P D vwCl (W_m cI cM a_m a_m_type a_m_name a_m_arity a_m_keys a_m_defaults m_count m_type m_name m_arity m_keys m_defaults) _ := blkP (Bs := [B_o cI cM a_o a_t a_m a_k , B_t cI cM a_t a_t_supertypes t_count t_interfaceSet t_supertypes, B_m cI cM a_m a_m_type a_m_name a_m_arity a_m_keys a_m_defaults m_count m_type m_name m_arity m_keys m_defaults, B_k cI cM a_k a_k_staticType a_k_dynamicType a_k_target a_k_argumentCounts a_k_temporaryCounts a_k_keys a_k_kinds a_k_values a_k_temporaryKinds a_k_newKinds a_k_newValues k_count k_frozenSet k_staticType k_dynamicType k_target k_argumentCounts k_temporaryCounts k_keys k_kinds k_values k_temporaryKinds k_newKinds k_newValues]) hP [2] (C0 := [B_m cI cM a_m a_m_type a_m_name a_m_arity a_m_keys a_m_defaults m_count m_type m_name m_arity m_keys m_defaults]) rfl rfl
          refine kV (As := [.int y4, .int y2, .int y3]) (rest := []) SS hKK (qX5_declaredBy l D cI cM a_m a_m_type a_m_name a_m_arity a_m_keys a_m_defaults m_count m_type m_name m_arity m_keys m_defaults y4 y2 y3 v4 ev4) cw93 hs5 0 5 rfl rfl rfl hl.1 rfl (Nat.le_of_ble_eq_true rfl) dX6_classMethod_33 ⟨Nat.zero_le _, Nat.zero_le _⟩ ?_
          refine lv_goto (tgt := 41) hx hb dX6_classMethod_36 (by decide) ?_
          exact F41 (fun u1 u2 u3 u4 => lX6_classMethod_11 t_count m_count m_type m_name m_arity n u1 u2 u3 u4) (fun u1 u2 u3 u4 h ls hl => ih u1 u2 u3 u4 h ls hl) y1 y2 y3 y4 v4 h ls (lv_sub (l' := [(0, .ref a_o), (1, .int y1), (2, .int y2), (3, .int y3), (4, .int y4)]) hl [0, 1, 2, 3, 4] rfl)
  unfold fX6_classMethod at h
  refine lv_aload_n hx hb dX6_classMethod_0 rfl (lv_at hl 0 rfl) ?_
  refine va_get (D := D) (ci := 6) (v := .ref a_t) (C := RX6) (T := TX6) (N := 3) hx hb hts hinX6 hown hKK.1 hP 0 rfl rfl 0 (by decide) lk12 (fun _ h9 => h9) rfl dX6_classMethod_1 ?_
  refine va_get (D := D) (ci := 7) (v := .int t_count) (C := RX7) (T := TX7) (N := 3) hx hb hts hinX7 hown hKK.1 hP 1 rfl rfl 0 (by decide) lk88 (fun _ h9 => h9) rfl dX6_classMethod_4 ?_
  refine lv_iconst (v := 1) hx hb dX6_classMethod_7 (by decide) ?_
  refine lv_isub hx hb dX6_classMethod_8 ?_
  refine lv_istore (lv' := [(4, .int (t_count - 1)), (0, .ref a_o), (1, .int x1), (2, .int x2), (3, .int x3)]) hx hb dX6_classMethod_9 hl (by decide) rfl (fun ls hl => ?_)
  exact F11 5000 x1 x2 x3 (t_count - 1) h ls (lv_sub (l' := [(0, .ref a_o), (1, .int x1), (2, .int x2), (3, .int x3), (4, .int (t_count - 1))]) hl [1, 2, 3, 4, 0] rfl)
set_option maxHeartbeats 8000000 in
set_option maxRecDepth 100000 in
theorem qX7_inherits (l : Launch) (D : va_G) (cI cM : ClassId) (a_t a_t_supertypes : Nat) (t_count : Int32) (t_interfaceSet : Int32) (t_supertypes : Nat → Int32) (x1 : Int32) (x2 : Int32) (r : Int32) (h : fX7_inherits t_supertypes x1 x2 = some r) : PM l yX7_inherits wsX7_inherits rmX7_inherits D cI cM [.ref a_t, .int x1, .int x2] (W_t cI cM a_t a_t_supertypes t_count t_interfaceSet t_supertypes) r := by
  refine PM.of (cc := cX7_inherits) (maxL := 3) (ret := (some .boolean)) (by decide) rfl (Nat.le_of_ble_eq_true rfl) ?_
  intro p e s m below meth c ls hx hb hr hml hown hts hlk hP hKK hl
  have hown : s.vm.findClass RX7 = some m.cls := hown
  have hl : lv_has ls 3 [(0, .ref a_t), (1, .int x1), (2, .int x2)] := hl
  generalize hav : ([.ref a_t, .int x1, .int x2] : List Value) = av at hts ⊢
  have SS : CallFix p m c cX7_inherits 3 s av.toArray wsX7_inherits RX7 := ⟨hx, hb, hml, hown, hts⟩
  have hinX7 : ∀ w ∈ u_ws RX7 TX7 3, w ∈ wsX7_inherits := by decide +kernel
  have lk9 := hts (.fieldLink RX7 9 "SignatureChanger$Types" "supertypes" "[I") (List.mem_of_getElem? (i := 1) rfl)
  have cw26 : va_CN rmX7_inherits s av.toArray RX7 26 yX8_contains RX8 cX8_contains 2 (some .boolean) wsX8_contains rmX8_contains 0 0 2 ∧ (Cond.static yX8_contains).before av.toArray s = true ∧ True := ⟨va_cnB 2 hts gX7_inherits_X8_contains_n26 rfl rfl rfl (hKK.2.at 8 rfl) (hts (.initialized RX8) (List.mem_of_getElem? (i := 3) rfl)) (by decide +kernel) ⟨Nat.le_of_ble_eq_true rfl, Nat.le_of_ble_eq_true rfl⟩, hts (.static yX8_contains) (List.mem_of_getElem? (i := 2) rfl), trivial⟩
  unfold fX7_inherits at h
  refine lv_aload_n hx hb dX7_inherits_0 rfl (lv_at hl 0 rfl) ?_
  refine va_get (D := D) (ci := 7) (v := .ref a_t_supertypes) (C := RX7) (T := TX7) (N := 3) hx hb hts hinX7 hown hKK.1 hP 0 rfl rfl 2 (by decide) lk9 (fun _ h9 => h9) rfl dX7_inherits_1 ?_
  refine lv_iload_n hx hb dX7_inherits_4 rfl (lv_at hl 1 rfl) ?_
  obtain ⟨v1, iv1, ev1, h⟩ := rd_some h
  refine kAld hx hb hKK hP 1 rfl iv1 ev1 dX7_inherits_5 ?_
  refine lv_iload_n hx hb dX7_inherits_6 rfl (lv_at hl 2 rfl) ?_
  obtain ⟨v2, ev2, h⟩ := bn_some h
  refine kSN (As := [.int v1, .int x2]) (rest := []) SS hKK (qX8_contains l D cI cM v1 x2 v2 ev2) cw26 va_P_nil rfl hl.1 rfl (Nat.le_of_ble_eq_true rfl) dX7_inherits_7 ⟨Nat.zero_le _, Nat.zero_le _⟩ ?_
  exact kRetZ hx hb hr hlk (rb_some h).2 (rb_some h).1 dX7_inherits_10
set_option maxHeartbeats 8000000 in
set_option maxRecDepth 100000 in
theorem qX6_hasSubtypeIn (l : Launch) (D : va_G) (cI cM : ClassId) (a_o a_t a_t_supertypes a_m a_m_type a_m_name a_m_arity a_m_keys a_m_defaults a_k a_k_staticType a_k_dynamicType a_k_target a_k_argumentCounts a_k_temporaryCounts a_k_keys a_k_kinds a_k_values a_k_temporaryKinds a_k_newKinds a_k_newValues : Nat) (t_count : Int32) (t_interfaceSet : Int32) (t_supertypes : Nat → Int32) (m_count : Int32) (m_type : Nat → Int32) (m_name : Nat → Int32) (m_arity : Nat → Int32) (m_keys : Nat → Int32) (m_defaults : Nat → Int32) (k_count : Int32) (k_frozenSet : Int32) (k_staticType : Nat → Int32) (k_dynamicType : Nat → Int32) (k_target : Nat → Int32) (k_argumentCounts : Nat → Int32) (k_temporaryCounts : Nat → Int32) (k_keys : Nat → Int32) (k_kinds : Nat → Int32) (k_values : Nat → Int32) (k_temporaryKinds : Nat → Int32) (k_newKinds : Nat → Int32) (k_newValues : Nat → Int32) (x1 : Int32) (x2 : Int32) (r : Int32) (h : fX6_hasSubtypeIn t_count t_supertypes x1 x2 = some r) : PM l yX6_hasSubtypeIn wsX6_hasSubtypeIn rmX6_hasSubtypeIn D cI cM [.ref a_o, .int x1, .int x2] (W_o_t_m_k cI cM a_o a_t a_t_supertypes a_m a_m_type a_m_name a_m_arity a_m_keys a_m_defaults a_k a_k_staticType a_k_dynamicType a_k_target a_k_argumentCounts a_k_temporaryCounts a_k_keys a_k_kinds a_k_values a_k_temporaryKinds a_k_newKinds a_k_newValues t_count t_interfaceSet t_supertypes m_count m_type m_name m_arity m_keys m_defaults k_count k_frozenSet k_staticType k_dynamicType k_target k_argumentCounts k_temporaryCounts k_keys k_kinds k_values k_temporaryKinds k_newKinds k_newValues) r := by
  refine PM.of (cc := cX6_hasSubtypeIn) (maxL := 4) (ret := (some .boolean)) (by decide) rfl (Nat.le_of_ble_eq_true rfl) ?_
  intro p e s m below meth c ls hx hb hr hml hown hts hlk hP hKK hl
  have hown : s.vm.findClass RX6 = some m.cls := hown
  have hl : lv_has ls 4 [(0, .ref a_o), (1, .int x1), (2, .int x2)] := hl
  generalize hav : ([.ref a_o, .int x1, .int x2] : List Value) = av at hts ⊢
  have SS : CallFix p m c cX6_hasSubtypeIn 4 s av.toArray wsX6_hasSubtypeIn RX6 := ⟨hx, hb, hml, hown, hts⟩
  have hinX6 : ∀ w ∈ u_ws RX6 TX6 3, w ∈ wsX6_hasSubtypeIn := by decide +kernel
  have hinX7 : ∀ w ∈ u_ws RX7 TX7 3, w ∈ wsX6_hasSubtypeIn := by decide +kernel
  have lk12 := hts (.fieldLink RX6 12 "SignatureChanger$Model" "types" "LSignatureChanger$Types;") (List.mem_of_getElem? (i := 1) rfl)
  have lk88 := hts (.fieldLink RX6 88 "SignatureChanger$Types" "count" "I") (List.mem_of_getElem? (i := 2) rfl)
  have cw89 : va_CN rmX6_hasSubtypeIn s av.toArray RX6 89 yX8_contains RX8 cX8_contains 2 (some .boolean) wsX8_contains rmX8_contains 0 0 2 ∧ (Cond.static yX8_contains).before av.toArray s = true ∧ True := ⟨va_cnB 2 hts gX6_hasSubtypeIn_X8_contains_n89 rfl rfl rfl (hKK.2.at 17 rfl) (hts (.initialized RX8) (List.mem_of_getElem? (i := 4) rfl)) (by decide +kernel) ⟨Nat.le_of_ble_eq_true rfl, Nat.le_of_ble_eq_true rfl⟩, hts (.static yX8_contains) (List.mem_of_getElem? (i := 3) rfl), trivial⟩
  have cw99 : CallW rmX6_hasSubtypeIn s av.toArray RX6 RX7 99 yX7_inherits cX7_inherits 3 (some .boolean) wsX7_inherits rmX7_inherits 0 0 2 := cwV 2 hts gX6_hasSubtypeIn_X7_inherits rfl rfl rfl (by decide +kernel) ⟨Nat.le_of_ble_eq_true rfl, Nat.le_of_ble_eq_true rfl⟩
  have F2 : ∀ (n : Nat) (y1 : Int32) (y2 : Int32) (y3 : Int32), lX6_hasSubtypeIn_2 t_count t_supertypes n y1 y2 y3 = some r → ∀ ls : Array Slot, lv_has ls 4 [(0, .ref a_o), (1, .int y1), (2, .int y2), (3, .int y3)] → WP p l e rmX6_hasSubtypeIn s m av below meth c r 2 ls [] := by
    intro n
    induction n with
    | zero => intro y1 y2 y3 h; exact no_some h
    | succ n ih =>
      intro y1 y2 y3 h ls hl
      rw [lX6_hasSubtypeIn_2_s] at h
      refine lv_iload_n hx hb dX6_hasSubtypeIn_2 rfl (lv_at hl 3 rfl) ?_
      refine lv_aload_n hx hb dX6_hasSubtypeIn_3 rfl (lv_at hl 0 rfl) ?_
      refine va_get (D := D) (ci := 6) (v := .ref a_t) (C := RX6) (T := TX6) (N := 3) hx hb hts hinX6 hown hKK.1 hP 0 rfl rfl 0 (by decide) lk12 (fun _ h9 => h9) rfl dX6_hasSubtypeIn_4 ?_
      refine va_get (D := D) (ci := 7) (v := .int t_count) (C := RX7) (T := TX7) (N := 3) hx hb hts hinX7 hown hKK.1 hP 1 rfl rfl 0 (by decide) lk88 (fun _ h9 => h9) rfl dX6_hasSubtypeIn_7 ?_
      refine lv_icmp_ge (tgt := 41) hx hb dX6_hasSubtypeIn_10 (by decide) (fun c1 => ?_) (fun c1 => ?_)
      · have h := ifp h c1
        refine lv_iconst (v := 0) hx hb dX6_hasSubtypeIn_41 (by decide) ?_
        exact kRetZ hx hb hr hlk rfl (Option.some.inj h) dX6_hasSubtypeIn_42
      · have h := ifn h c1
        refine lv_iload_n hx hb dX6_hasSubtypeIn_13 rfl (lv_at hl 1 rfl) ?_
        refine lv_iload_n hx hb dX6_hasSubtypeIn_14 rfl (lv_at hl 3 rfl) ?_
        obtain ⟨v2, ev2, h⟩ := bn_some h
        refine kSN (As := [.int y1, .int y3]) (rest := []) SS hKK (qX8_contains l D cI cM y1 y3 v2 ev2) cw89 va_P_nil rfl hl.1 rfl (Nat.le_of_ble_eq_true rfl) dX6_hasSubtypeIn_15 ⟨Nat.zero_le _, Nat.zero_le _⟩ ?_
        refine lv_if_eq (tgt := 35) hx hb dX6_hasSubtypeIn_18 (by decide) (fun c3 => ?_) (fun c3 => ?_)
        · have h := ifp h c3
          refine lv_iinc (v := y3 + 1) (lv' := [(3, .int (y3 + 1)), (0, .ref a_o), (1, .int y1), (2, .int y2)]) hx hb dX6_hasSubtypeIn_35 hl (k := 3) rfl rfl (by decide) rfl (fun ls hl => ?_)
          refine lv_goto (tgt := 2) hx hb dX6_hasSubtypeIn_38 (by decide) ?_
          exact ih y1 y2 (y3 + 1) h ls (lv_sub (l' := [(0, .ref a_o), (1, .int y1), (2, .int y2), (3, .int (y3 + 1))]) hl [1, 2, 3, 0] rfl)
        · have h := ifn h c3
          refine lv_aload_n hx hb dX6_hasSubtypeIn_21 rfl (lv_at hl 0 rfl) ?_
          refine va_get (D := D) (ci := 6) (v := .ref a_t) (C := RX6) (T := TX6) (N := 3) hx hb hts hinX6 hown hKK.1 hP 0 rfl rfl 0 (by decide) lk12 (fun _ h9 => h9) rfl dX6_hasSubtypeIn_22 ?_
          refine lv_iload_n hx hb dX6_hasSubtypeIn_25 rfl (lv_at hl 3 rfl) ?_
          refine lv_iload_n hx hb dX6_hasSubtypeIn_26 rfl (lv_at hl 2 rfl) ?_
          obtain ⟨v4, ev4, h⟩ := bn_some h
          have hs5 : va_P D vwCl (W_t cI cM a_t a_t_supertypes t_count t_interfaceSet t_supertypes) _ := blkP (Bs := [B_o cI cM a_o a_t a_m a_k , B_t cI cM a_t a_t_supertypes t_count t_interfaceSet t_supertypes, B_m cI cM a_m a_m_type a_m_name a_m_arity a_m_keys a_m_defaults m_count m_type m_name m_arity m_keys m_defaults, B_k cI cM a_k a_k_staticType a_k_dynamicType a_k_target a_k_argumentCounts a_k_temporaryCounts a_k_keys a_k_kinds a_k_values a_k_temporaryKinds a_k_newKinds a_k_newValues k_count k_frozenSet k_staticType k_dynamicType k_target k_argumentCounts k_temporaryCounts k_keys k_kinds k_values k_temporaryKinds k_newKinds k_newValues]) hP [1] (C0 := [B_t cI cM a_t a_t_supertypes t_count t_interfaceSet t_supertypes]) rfl rfl
          refine kV (As := [.int y3, .int y2]) (rest := []) SS hKK (qX7_inherits l D cI cM a_t a_t_supertypes t_count t_interfaceSet t_supertypes y3 y2 v4 ev4) cw99 hs5 0 7 rfl rfl rfl hl.1 rfl (Nat.le_of_ble_eq_true rfl) dX6_hasSubtypeIn_27 ⟨Nat.zero_le _, Nat.zero_le _⟩ ?_
          refine lv_if_eq (tgt := 35) hx hb dX6_hasSubtypeIn_30 (by decide) (fun c6 => ?_) (fun c6 => ?_)
          · have h := ifp h c6
            refine lv_iinc (v := y3 + 1) (lv' := [(3, .int (y3 + 1)), (0, .ref a_o), (1, .int y1), (2, .int y2)]) hx hb dX6_hasSubtypeIn_35 hl (k := 3) rfl rfl (by decide) rfl (fun ls hl => ?_)
            refine lv_goto (tgt := 2) hx hb dX6_hasSubtypeIn_38 (by decide) ?_
            exact ih y1 y2 (y3 + 1) h ls (lv_sub (l' := [(0, .ref a_o), (1, .int y1), (2, .int y2), (3, .int (y3 + 1))]) hl [1, 2, 3, 0] rfl)
          · have h := ifn h c6
            refine lv_iconst (v := 1) hx hb dX6_hasSubtypeIn_33 (by decide) ?_
            exact kRetZ hx hb hr hlk rfl (Option.some.inj h) dX6_hasSubtypeIn_34
  unfold fX6_hasSubtypeIn at h
  refine lv_iconst (v := 0) hx hb dX6_hasSubtypeIn_0 (by decide) ?_
  refine lv_istore_n (lv' := [(3, .int 0), (0, .ref a_o), (1, .int x1), (2, .int x2)]) hx hb dX6_hasSubtypeIn_1 rfl hl (by decide) rfl (fun ls hl => ?_)
  exact F2 5000 x1 x2 0 h ls (lv_sub (l' := [(0, .ref a_o), (1, .int x1), (2, .int x2), (3, .int 0)]) hl [1, 2, 3, 0] rfl)
set_option maxHeartbeats 8000000 in
set_option maxRecDepth 100000 in
theorem qX6_interfaceMethod (l : Launch) (D : va_G) (cI cM : ClassId) (a_o a_t a_t_supertypes a_m a_m_type a_m_name a_m_arity a_m_keys a_m_defaults a_k a_k_staticType a_k_dynamicType a_k_target a_k_argumentCounts a_k_temporaryCounts a_k_keys a_k_kinds a_k_values a_k_temporaryKinds a_k_newKinds a_k_newValues : Nat) (t_count : Int32) (t_interfaceSet : Int32) (t_supertypes : Nat → Int32) (m_count : Int32) (m_type : Nat → Int32) (m_name : Nat → Int32) (m_arity : Nat → Int32) (m_keys : Nat → Int32) (m_defaults : Nat → Int32) (k_count : Int32) (k_frozenSet : Int32) (k_staticType : Nat → Int32) (k_dynamicType : Nat → Int32) (k_target : Nat → Int32) (k_argumentCounts : Nat → Int32) (k_temporaryCounts : Nat → Int32) (k_keys : Nat → Int32) (k_kinds : Nat → Int32) (k_values : Nat → Int32) (k_temporaryKinds : Nat → Int32) (k_newKinds : Nat → Int32) (k_newValues : Nat → Int32) (x1 : Int32) (x2 : Int32) (x3 : Int32) (r : Int32) (h : fX6_interfaceMethod t_count t_supertypes m_count m_type m_name m_arity x1 x2 x3 = some r) : PM l yX6_interfaceMethod wsX6_interfaceMethod rmX6_interfaceMethod D cI cM [.ref a_o, .int x1, .int x2, .int x3] (W_o_t_m_k cI cM a_o a_t a_t_supertypes a_m a_m_type a_m_name a_m_arity a_m_keys a_m_defaults a_k a_k_staticType a_k_dynamicType a_k_target a_k_argumentCounts a_k_temporaryCounts a_k_keys a_k_kinds a_k_values a_k_temporaryKinds a_k_newKinds a_k_newValues t_count t_interfaceSet t_supertypes m_count m_type m_name m_arity m_keys m_defaults k_count k_frozenSet k_staticType k_dynamicType k_target k_argumentCounts k_temporaryCounts k_keys k_kinds k_values k_temporaryKinds k_newKinds k_newValues) r := by
  refine PM.of (cc := cX6_interfaceMethod) (maxL := 6) (ret := (some .int)) (by decide) rfl (Nat.le_of_ble_eq_true rfl) ?_
  intro p e s m below meth c ls hx hb hr hml hown hts hlk hP hKK hl
  have hown : s.vm.findClass RX6 = some m.cls := hown
  have hl : lv_has ls 6 [(0, .ref a_o), (1, .int x1), (2, .int x2), (3, .int x3)] := hl
  generalize hav : ([.ref a_o, .int x1, .int x2, .int x3] : List Value) = av at hts ⊢
  have SS : CallFix p m c cX6_interfaceMethod 6 s av.toArray wsX6_interfaceMethod RX6 := ⟨hx, hb, hml, hown, hts⟩
  have hinX6 : ∀ w ∈ u_ws RX6 TX6 3, w ∈ wsX6_interfaceMethod := by decide +kernel
  have hinX7 : ∀ w ∈ u_ws RX7 TX7 3, w ∈ wsX6_interfaceMethod := by decide +kernel
  have lk12 := hts (.fieldLink RX6 12 "SignatureChanger$Model" "types" "LSignatureChanger$Types;") (List.mem_of_getElem? (i := 2) rfl)
  have lk21 := hts (.fieldLink RX6 21 "SignatureChanger$Model" "methods" "LSignatureChanger$Methods;") (List.mem_of_getElem? (i := 1) rfl)
  have lk88 := hts (.fieldLink RX6 88 "SignatureChanger$Types" "count" "I") (List.mem_of_getElem? (i := 3) rfl)
  have cw49 : va_CN rmX6_interfaceMethod s av.toArray RX6 49 yX8_bit RX8 cX8_bit 1 (some .int) wsX8_bit rmX8_bit 0 0 1 ∧ (Cond.static yX8_bit).before av.toArray s = true ∧ True := ⟨va_cnB 1 hts gX6_interfaceMethod_X8_bit_n49 rfl rfl rfl (hKK.2.at 16 rfl) (hts (.initialized RX8) (List.mem_of_getElem? (i := 14) rfl)) (by decide +kernel) ⟨Nat.le_of_ble_eq_true rfl, Nat.le_of_ble_eq_true rfl⟩, hts (.static yX8_bit) (List.mem_of_getElem? (i := 16) rfl), trivial⟩
  have cw57 : CallW rmX6_interfaceMethod s av.toArray RX6 RX5 57 yX5_typesOf cX5_typesOf 4 (some .int) wsX5_typesOf rmX5_typesOf 0 0 1 := cwV 1 hts gX6_interfaceMethod_X5_typesOf rfl rfl rfl (by decide +kernel) ⟨Nat.le_of_ble_eq_true rfl, Nat.le_of_ble_eq_true rfl⟩
  have cw63 : CallW rmX6_interfaceMethod s av.toArray RX6 RX5 63 yX5_withSignature cX5_withSignature 7 (some .int) wsX5_withSignature rmX5_withSignature 0 0 3 := cwV 3 hts gX6_interfaceMethod_X5_withSignature rfl rfl rfl (by decide +kernel) ⟨Nat.le_of_ble_eq_true rfl, Nat.le_of_ble_eq_true rfl⟩
  have cw89 : va_CN rmX6_interfaceMethod s av.toArray RX6 89 yX8_contains RX8 cX8_contains 2 (some .boolean) wsX8_contains rmX8_contains 0 0 2 ∧ (Cond.static yX8_contains).before av.toArray s = true ∧ True := ⟨va_cnB 2 hts gX6_interfaceMethod_X8_contains_n89 rfl rfl rfl (hKK.2.at 17 rfl) (hts (.initialized RX8) (List.mem_of_getElem? (i := 14) rfl)) (by decide +kernel) ⟨Nat.le_of_ble_eq_true rfl, Nat.le_of_ble_eq_true rfl⟩, hts (.static yX8_contains) (List.mem_of_getElem? (i := 13) rfl), trivial⟩
  have cw93 : CallW rmX6_interfaceMethod s av.toArray RX6 RX5 93 yX5_declaredBy cX5_declaredBy 4 (some .int) wsX5_declaredBy rmX5_declaredBy 0 0 3 := cwV 3 hts gX6_interfaceMethod_X5_declaredBy rfl rfl rfl (by decide +kernel) ⟨Nat.le_of_ble_eq_true rfl, Nat.le_of_ble_eq_true rfl⟩
  have cw96 : CallW rmX6_interfaceMethod s av.toArray RX6 RX6 96 yX6_hasSubtypeIn cX6_hasSubtypeIn 4 (some .boolean) wsX6_hasSubtypeIn rmX6_hasSubtypeIn 0 0 2 := cwV 2 hts gX6_interfaceMethod_X6_hasSubtypeIn rfl rfl rfl (by decide +kernel) ⟨Nat.le_of_ble_eq_true rfl, Nat.le_of_ble_eq_true rfl⟩
  have F22 : ∀ (n : Nat) (y2 : Int32) (y3 : Int32) (y4 : Int32) (y5 : Int32), lX6_interfaceMethod_22 t_count t_supertypes m_count m_type m_name m_arity n y2 y3 y4 y5 = some r → ∀ ls : Array Slot, lv_has ls 6 [(0, .ref a_o), (2, .int y2), (3, .int y3), (4, .int y4), (5, .int y5)] → WP p l e rmX6_interfaceMethod s m av below meth c r 22 ls [] := by
    intro n
    induction n with
    | zero => intro y2 y3 y4 y5 h; exact no_some h
    | succ n ih =>
      intro y2 y3 y4 y5 h ls hl
      rw [lX6_interfaceMethod_22_s] at h
      refine lv_iload hx hb dX6_interfaceMethod_22 (lv_at hl 4 rfl) ?_
      refine lv_aload_n hx hb dX6_interfaceMethod_24 rfl (lv_at hl 0 rfl) ?_
      refine va_get (D := D) (ci := 6) (v := .ref a_t) (C := RX6) (T := TX6) (N := 3) hx hb hts hinX6 hown hKK.1 hP 0 rfl rfl 0 (by decide) lk12 (fun _ h9 => h9) rfl dX6_interfaceMethod_25 ?_
      refine va_get (D := D) (ci := 7) (v := .int t_count) (C := RX7) (T := TX7) (N := 3) hx hb hts hinX7 hown hKK.1 hP 1 rfl rfl 0 (by decide) lk88 (fun _ h9 => h9) rfl dX6_interfaceMethod_28 ?_
      refine lv_icmp_ge (tgt := 81) hx hb dX6_interfaceMethod_31 (by decide) (fun c1 => ?_) (fun c1 => ?_)
      · have h := ifp h c1
        refine lv_bipush (v := (-9)) hx hb dX6_interfaceMethod_81 (by decide) ?_
        exact kRet hx hb hr hlk (Option.some.inj h) dX6_interfaceMethod_83
      · have h := ifn h c1
        refine lv_iload hx hb dX6_interfaceMethod_34 (lv_at hl 3 rfl) ?_
        refine lv_iload hx hb dX6_interfaceMethod_36 (lv_at hl 4 rfl) ?_
        obtain ⟨v2, ev2, h⟩ := bn_some h
        refine kSN (As := [.int y4, .int y5]) (rest := []) SS hKK (qX8_contains l D cI cM y4 y5 v2 ev2) cw89 va_P_nil rfl hl.1 rfl (Nat.le_of_ble_eq_true rfl) dX6_interfaceMethod_38 ⟨Nat.zero_le _, Nat.zero_le _⟩ ?_
        refine lv_if_eq (tgt := 75) hx hb dX6_interfaceMethod_41 (by decide) (fun c3 => ?_) (fun c3 => ?_)
        · have h := ifp h c3
          refine lv_iinc (v := y5 + 1) (lv' := [(5, .int (y5 + 1)), (0, .ref a_o), (2, .int y2), (3, .int y3), (4, .int y4)]) hx hb dX6_interfaceMethod_75 hl (k := 4) rfl rfl (by decide) rfl (fun ls hl => ?_)
          refine lv_goto (tgt := 22) hx hb dX6_interfaceMethod_78 (by decide) ?_
          exact ih y2 y3 y4 (y5 + 1) h ls (lv_sub (l' := [(0, .ref a_o), (2, .int y2), (3, .int y3), (4, .int y4), (5, .int (y5 + 1))]) hl [1, 2, 3, 4, 0] rfl)
        · have h := ifn h c3
          refine lv_aload_n hx hb dX6_interfaceMethod_44 rfl (lv_at hl 0 rfl) ?_
          refine lv_iload hx hb dX6_interfaceMethod_45 (lv_at hl 3 rfl) ?_
          refine lv_iload hx hb dX6_interfaceMethod_47 (lv_at hl 4 rfl) ?_
          obtain ⟨v4, ev4, h⟩ := bn_some h
          refine kSN (As := [.int y5]) (rest := [.int y4, .ref a_o]) SS hKK (qX8_bit l D cI cM y5 v4 ev4) cw49 va_P_nil rfl hl.1 rfl (Nat.le_of_ble_eq_true rfl) dX6_interfaceMethod_49 ⟨Nat.zero_le _, Nat.zero_le _⟩ ?_
          refine lv_iconst (v := (-1)) hx hb dX6_interfaceMethod_52 (by decide) ?_
          refine lv_ixor hx hb dX6_interfaceMethod_53 ?_
          refine lv_iand hx hb dX6_interfaceMethod_54 ?_
          refine lv_iload hx hb dX6_interfaceMethod_55 (lv_at hl 4 rfl) ?_
          obtain ⟨v5, ev5, h⟩ := bn_some h
          have hs6 : va_P D vwCl (W_o_t_m_k cI cM a_o a_t a_t_supertypes a_m a_m_type a_m_name a_m_arity a_m_keys a_m_defaults a_k a_k_staticType a_k_dynamicType a_k_target a_k_argumentCounts a_k_temporaryCounts a_k_keys a_k_kinds a_k_values a_k_temporaryKinds a_k_newKinds a_k_newValues t_count t_interfaceSet t_supertypes m_count m_type m_name m_arity m_keys m_defaults k_count k_frozenSet k_staticType k_dynamicType k_target k_argumentCounts k_temporaryCounts k_keys k_kinds k_values k_temporaryKinds k_newKinds k_newValues) _ := blkP (Bs := [B_o cI cM a_o a_t a_m a_k , B_t cI cM a_t a_t_supertypes t_count t_interfaceSet t_supertypes, B_m cI cM a_m a_m_type a_m_name a_m_arity a_m_keys a_m_defaults m_count m_type m_name m_arity m_keys m_defaults, B_k cI cM a_k a_k_staticType a_k_dynamicType a_k_target a_k_argumentCounts a_k_temporaryCounts a_k_keys a_k_kinds a_k_values a_k_temporaryKinds a_k_newKinds a_k_newValues k_count k_frozenSet k_staticType k_dynamicType k_target k_argumentCounts k_temporaryCounts k_keys k_kinds k_values k_temporaryKinds k_newKinds k_newValues]) hP [0, 1, 2, 3] (C0 := [B_o cI cM a_o a_t a_m a_k , B_t cI cM a_t a_t_supertypes t_count t_interfaceSet t_supertypes, B_m cI cM a_m a_m_type a_m_name a_m_arity a_m_keys a_m_defaults m_count m_type m_name m_arity m_keys m_defaults, B_k cI cM a_k a_k_staticType a_k_dynamicType a_k_target a_k_argumentCounts a_k_temporaryCounts a_k_keys a_k_kinds a_k_values a_k_temporaryKinds a_k_newKinds a_k_newValues k_count k_frozenSet k_staticType k_dynamicType k_target k_argumentCounts k_temporaryCounts k_keys k_kinds k_values k_temporaryKinds k_newKinds k_newValues]) rfl rfl
          refine kV (As := [.int (y4 &&& (v4 ^^^ (-1))), .int y5]) (rest := []) SS hKK (qX6_hasSubtypeIn l D cI cM a_o a_t a_t_supertypes a_m a_m_type a_m_name a_m_arity a_m_keys a_m_defaults a_k a_k_staticType a_k_dynamicType a_k_target a_k_argumentCounts a_k_temporaryCounts a_k_keys a_k_kinds a_k_values a_k_temporaryKinds a_k_newKinds a_k_newValues t_count t_interfaceSet t_supertypes m_count m_type m_name m_arity m_keys m_defaults k_count k_frozenSet k_staticType k_dynamicType k_target k_argumentCounts k_temporaryCounts k_keys k_kinds k_values k_temporaryKinds k_newKinds k_newValues (y4 &&& (v4 ^^^ (-1))) y5 v5 ev5) cw96 hs6 0 6 rfl rfl rfl hl.1 rfl (Nat.le_of_ble_eq_true rfl) dX6_interfaceMethod_57 ⟨Nat.zero_le _, Nat.zero_le _⟩ ?_
          refine lv_if_ne (tgt := 75) hx hb dX6_interfaceMethod_60 (by decide) (fun c7 => ?_) (fun c7 => ?_)
          · have h := ifn h c7
            refine lv_iinc (v := y5 + 1) (lv' := [(5, .int (y5 + 1)), (0, .ref a_o), (2, .int y2), (3, .int y3), (4, .int y4)]) hx hb dX6_interfaceMethod_75 hl (k := 4) rfl rfl (by decide) rfl (fun ls hl => ?_)
            refine lv_goto (tgt := 22) hx hb dX6_interfaceMethod_78 (by decide) ?_
            exact ih y2 y3 y4 (y5 + 1) h ls (lv_sub (l' := [(0, .ref a_o), (2, .int y2), (3, .int y3), (4, .int y4), (5, .int (y5 + 1))]) hl [1, 2, 3, 4, 0] rfl)
          · have h := ifp h c7
            refine lv_aload_n hx hb dX6_interfaceMethod_63 rfl (lv_at hl 0 rfl) ?_
            refine va_get (D := D) (ci := 6) (v := .ref a_m) (C := RX6) (T := TX6) (N := 3) hx hb hts hinX6 hown hKK.1 hP 0 rfl rfl 1 (by decide) lk21 (fun _ h9 => h9) rfl dX6_interfaceMethod_64 ?_
            refine lv_iload hx hb dX6_interfaceMethod_67 (lv_at hl 4 rfl) ?_
            refine lv_iload_n hx hb dX6_interfaceMethod_69 rfl (lv_at hl 1 rfl) ?_
            refine lv_iload_n hx hb dX6_interfaceMethod_70 rfl (lv_at hl 2 rfl) ?_
            obtain ⟨v8, ev8, h⟩ := bn_some h
            have hs9 : va_P D vwCl (W_m cI cM a_m a_m_type a_m_name a_m_arity a_m_keys a_m_defaults m_count m_type m_name m_arity m_keys m_defaults) _ := blkP (Bs := [B_o cI cM a_o a_t a_m a_k , B_t cI cM a_t a_t_supertypes t_count t_interfaceSet t_supertypes, B_m cI cM a_m a_m_type a_m_name a_m_arity a_m_keys a_m_defaults m_count m_type m_name m_arity m_keys m_defaults, B_k cI cM a_k a_k_staticType a_k_dynamicType a_k_target a_k_argumentCounts a_k_temporaryCounts a_k_keys a_k_kinds a_k_values a_k_temporaryKinds a_k_newKinds a_k_newValues k_count k_frozenSet k_staticType k_dynamicType k_target k_argumentCounts k_temporaryCounts k_keys k_kinds k_values k_temporaryKinds k_newKinds k_newValues]) hP [2] (C0 := [B_m cI cM a_m a_m_type a_m_name a_m_arity a_m_keys a_m_defaults m_count m_type m_name m_arity m_keys m_defaults]) rfl rfl
            refine kV (As := [.int y5, .int y2, .int y3]) (rest := []) SS hKK (qX5_declaredBy l D cI cM a_m a_m_type a_m_name a_m_arity a_m_keys a_m_defaults m_count m_type m_name m_arity m_keys m_defaults y5 y2 y3 v8 ev8) cw93 hs9 0 5 rfl rfl rfl hl.1 rfl (Nat.le_of_ble_eq_true rfl) dX6_interfaceMethod_71 ⟨Nat.zero_le _, Nat.zero_le _⟩ ?_
            exact kRet hx hb hr hlk (Option.some.inj h) dX6_interfaceMethod_74
  unfold fX6_interfaceMethod at h
  refine lv_aload_n hx hb dX6_interfaceMethod_0 rfl (lv_at hl 0 rfl) ?_
  refine va_get (D := D) (ci := 6) (v := .ref a_m) (C := RX6) (T := TX6) (N := 3) hx hb hts hinX6 hown hKK.1 hP 0 rfl rfl 1 (by decide) lk21 (fun _ h9 => h9) rfl dX6_interfaceMethod_1 ?_
  refine lv_aload_n hx hb dX6_interfaceMethod_4 rfl (lv_at hl 0 rfl) ?_
  refine va_get (D := D) (ci := 6) (v := .ref a_m) (C := RX6) (T := TX6) (N := 3) hx hb hts hinX6 hown hKK.1 hP 0 rfl rfl 1 (by decide) lk21 (fun _ h9 => h9) rfl dX6_interfaceMethod_5 ?_
  refine lv_iload_n hx hb dX6_interfaceMethod_8 rfl (lv_at hl 2 rfl) ?_
  refine lv_iload_n hx hb dX6_interfaceMethod_9 rfl (lv_at hl 3 rfl) ?_
  refine lv_iload_n hx hb dX6_interfaceMethod_10 rfl (lv_at hl 1 rfl) ?_
  obtain ⟨v1, ev1, h⟩ := bn_some h
  have hs2 : va_P D vwCl (W_m cI cM a_m a_m_type a_m_name a_m_arity a_m_keys a_m_defaults m_count m_type m_name m_arity m_keys m_defaults) _ := blkP (Bs := [B_o cI cM a_o a_t a_m a_k , B_t cI cM a_t a_t_supertypes t_count t_interfaceSet t_supertypes, B_m cI cM a_m a_m_type a_m_name a_m_arity a_m_keys a_m_defaults m_count m_type m_name m_arity m_keys m_defaults, B_k cI cM a_k a_k_staticType a_k_dynamicType a_k_target a_k_argumentCounts a_k_temporaryCounts a_k_keys a_k_kinds a_k_values a_k_temporaryKinds a_k_newKinds a_k_newValues k_count k_frozenSet k_staticType k_dynamicType k_target k_argumentCounts k_temporaryCounts k_keys k_kinds k_values k_temporaryKinds k_newKinds k_newValues]) hP [2] (C0 := [B_m cI cM a_m a_m_type a_m_name a_m_arity a_m_keys a_m_defaults m_count m_type m_name m_arity m_keys m_defaults]) rfl rfl
  refine kV (As := [.int x2, .int x3, .int x1]) (rest := [.ref a_m]) SS hKK (qX5_withSignature l D cI cM a_m a_m_type a_m_name a_m_arity a_m_keys a_m_defaults m_count m_type m_name m_arity m_keys m_defaults x2 x3 x1 v1 ev1) cw63 hs2 0 5 rfl rfl rfl hl.1 rfl (Nat.le_of_ble_eq_true rfl) dX6_interfaceMethod_11 ⟨Nat.zero_le _, Nat.zero_le _⟩ ?_
  obtain ⟨v3, ev3, h⟩ := bn_some h
  refine kV (As := [.int v1]) (rest := []) SS hKK (qX5_typesOf l D cI cM a_m a_m_type a_m_name a_m_arity a_m_keys a_m_defaults m_count m_type m_name m_arity m_keys m_defaults v1 v3 ev3) cw57 hs2 0 5 rfl rfl rfl hl.1 rfl (Nat.le_of_ble_eq_true rfl) dX6_interfaceMethod_14 ⟨Nat.zero_le _, Nat.zero_le _⟩ ?_
  refine lv_istore (lv' := [(4, .int v3), (0, .ref a_o), (1, .int x1), (2, .int x2), (3, .int x3)]) hx hb dX6_interfaceMethod_17 hl (by decide) rfl (fun ls hl => ?_)
  refine lv_iconst (v := 0) hx hb dX6_interfaceMethod_19 (by decide) ?_
  refine lv_istore (lv' := [(5, .int 0), (4, .int v3), (0, .ref a_o), (1, .int x1), (2, .int x2), (3, .int x3)]) hx hb dX6_interfaceMethod_20 hl (by decide) rfl (fun ls hl => ?_)
  exact F22 5000 x2 x3 v3 0 h ls (lv_sub (l' := [(0, .ref a_o), (2, .int x2), (3, .int x3), (4, .int v3), (5, .int 0)]) hl [2, 4, 5, 1, 0] rfl)
