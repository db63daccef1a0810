/-! generated: X9.change X9.applyChange -/
set_option maxHeartbeats 8000000 in
set_option maxRecDepth 100000 in
theorem qX9_change (l : Launch) (D : va_G) (cI cM : ClassId) (a_z a_z_s a_z_past a_z_keeps a_z_entryKey a_z_entryDefault a_z_held a_z_values a_z_kinds a_z_news : Nat) (z_s : Nat → Int32) (z_past : Nat → Int32) (z_pasts : Int32) (z_changed : Int32) (z_entries : Int32) (z_keeps : Nat → Int32) (z_entryKey : Nat → Int32) (z_entryDefault : Nat → Int32) (z_counter : Int32) (z_held : Nat → Int32) (z_values : Nat → Int32) (z_kinds : Nat → Int32) (z_news : Nat → Int32) (x1 : Int32) (r_z_s : Nat → Int32) (h : fX9_change z_s z_entries z_entryKey z_entryDefault x1 = some r_z_s) : IM l yX9_change wsX9_change rmX9_change D cI cM [.ref a_z, .int x1] (W_z cI cM a_z a_z_s a_z_past a_z_keeps a_z_entryKey a_z_entryDefault a_z_held a_z_values a_z_kinds a_z_news z_s z_past z_pasts z_changed z_entries z_keeps z_entryKey z_entryDefault z_counter z_held z_values z_kinds z_news) (W_z cI cM a_z a_z_s a_z_past a_z_keeps a_z_entryKey a_z_entryDefault a_z_held a_z_values a_z_kinds a_z_news r_z_s z_past z_pasts z_changed z_entries z_keeps z_entryKey z_entryDefault z_counter z_held z_values z_kinds z_news) none := by
  refine IM.of (cc := cX9_change) (maxL := 4) (ret := none) (by decide) rfl (Nat.le_of_ble_eq_true rfl) ?_
  intro p e s m below meth c ls hx hb hr hml hown hts hlk hKK hP hD hS hl
  have hown : s.vm.findClass RX9 = some m.cls := hown
  have hl : lv_has ls 4 [(0, .ref a_z), (1, .int x1)] := hl
  generalize hav : ([.ref a_z, .int x1] : List Value) = av at hts ⊢
  generalize hw1 : W_z cI cM a_z a_z_s a_z_past a_z_keeps a_z_entryKey a_z_entryDefault a_z_held a_z_values a_z_kinds a_z_news r_z_s z_past z_pasts z_changed z_entries z_keeps z_entryKey z_entryDefault z_counter z_held z_values z_kinds z_news = w1
  generalize hw0 : W_z cI cM a_z a_z_s a_z_past a_z_keeps a_z_entryKey a_z_entryDefault a_z_held a_z_values a_z_kinds a_z_news z_s z_past z_pasts z_changed z_entries z_keeps z_entryKey z_entryDefault z_counter z_held z_values z_kinds z_news = w0 at hD hS ⊢
  have hP : va_P D vwCl (W_z cI cM a_z a_z_s a_z_past a_z_keeps a_z_entryKey a_z_entryDefault a_z_held a_z_values a_z_kinds a_z_news z_s z_past z_pasts z_changed z_entries z_keeps z_entryKey z_entryDefault z_counter z_held z_values z_kinds z_news) s.heap := hP
  have hD : va_D (fun q => q ∈ w0.map (·.1)) (W_z cI cM a_z a_z_s a_z_past a_z_keeps a_z_entryKey a_z_entryDefault a_z_held a_z_values a_z_kinds a_z_news z_s z_past z_pasts z_changed z_entries z_keeps z_entryKey z_entryDefault z_counter z_held z_values z_kinds z_news) := by rw [hw0]; exact hD
  have SS : CallFix p m c cX9_change 4 s av.toArray wsX9_change RX9 := ⟨hx, hb, hml, hown, hts⟩
  have hinX9 : ∀ w ∈ u_ws RX9 TX9 13, w ∈ wsX9_change := by decide +kernel
  have lk7 := hts (.fieldLink RX9 7 "SignatureChangerModel" "s" "[I") (List.mem_of_getElem? (i := 1) rfl)
  have lk23 := hts (.fieldLink RX9 23 "SignatureChangerModel" "entryKey" "[I") (List.mem_of_getElem? (i := 3) rfl)
  have lk26 := hts (.fieldLink RX9 26 "SignatureChangerModel" "entryDefault" "[I") (List.mem_of_getElem? (i := 4) rfl)
  have lk151 := hts (.fieldLink RX9 151 "SignatureChangerModel" "entries" "I") (List.mem_of_getElem? (i := 2) rfl)
  have F83 : ∀ (k22 : (Nat → Int32) → Int32 → Int32 → Option ((Nat → Int32))) (hk22 : ∀ (H : Heap) (locs : List Loc) (w_z_s : Nat → Int32) (u2 : Int32) (u3 : Int32), k22 w_z_s u2 u3 = some r_z_s → va_P D vwCl (W_z cI cM a_z a_z_s a_z_past a_z_keeps a_z_entryKey a_z_entryDefault a_z_held a_z_values a_z_kinds a_z_news w_z_s z_past z_pasts z_changed z_entries z_keeps z_entryKey z_entryDefault z_counter z_held z_values z_kinds z_news) H → va_D (fun q => q ∈ w0.map (·.1)) (W_z cI cM a_z a_z_s a_z_past a_z_keeps a_z_entryKey a_z_entryDefault a_z_held a_z_values a_z_kinds a_z_news w_z_s z_past z_pasts z_changed z_entries z_keeps z_entryKey z_entryDefault z_counter z_held z_values z_kinds z_news) → va_S (fun q => q ∈ w0.map (·.1)) s.heap H locs → ∀ ls : Array Slot, lv_has ls 4 [(0, .ref a_z), (2, .int u2), (3, .int u3)] → WI p l e rmX9_change s m av below meth c D w0 w1 none H locs 22 ls []), ∀ (H : Heap) (locs : List Loc) (z_s : Nat → Int32) (y2 : Int32) (y3 : Int32) (s1 : Int32) (s2 : Int32), jX9_change_83 z_entries z_entryKey z_entryDefault k22 z_s y2 y3 s1 s2 = some r_z_s → va_P D vwCl (W_z cI cM a_z a_z_s a_z_past a_z_keeps a_z_entryKey a_z_entryDefault a_z_held a_z_values a_z_kinds a_z_news z_s z_past z_pasts z_changed z_entries z_keeps z_entryKey z_entryDefault z_counter z_held z_values z_kinds z_news) H → va_D (fun q => q ∈ (w0).map (·.1)) (W_z cI cM a_z a_z_s a_z_past a_z_keeps a_z_entryKey a_z_entryDefault a_z_held a_z_values a_z_kinds a_z_news z_s z_past z_pasts z_changed z_entries z_keeps z_entryKey z_entryDefault z_counter z_held z_values z_kinds z_news) → va_S (fun q => q ∈ (w0).map (·.1)) s.heap H locs → ∀ ls : Array Slot, lv_has ls 4 [(0, .ref a_z), (2, .int y2), (3, .int y3)] → WI p l e rmX9_change s m av below meth c D w0 w1 none H locs 83 ls [.int s2, .int s1, .ref a_z_s] := by
    intro k22 hk22
    intro H locs z_s y2 y3 s1 s2 h hP hD hS ls hl
    unfold jX9_change_83 at h
    obtain ⟨g1, ig1, eg1, h⟩ := wr_some h
    refine kAst hx hb hKK hP hD hS 1 rfl ig1 eg1 dX9_change_83 (fun H locs hP hD hS => ?_)
    have hP : va_P D vwCl (W_z cI cM a_z a_z_s a_z_past a_z_keeps a_z_entryKey a_z_entryDefault a_z_held a_z_values a_z_kinds a_z_news g1 z_past z_pasts z_changed z_entries z_keeps z_entryKey z_entryDefault z_counter z_held z_values z_kinds z_news) H := hP
    have hD : va_D _ (W_z cI cM a_z a_z_s a_z_past a_z_keeps a_z_entryKey a_z_entryDefault a_z_held a_z_values a_z_kinds a_z_news g1 z_past z_pasts z_changed z_entries z_keeps z_entryKey z_entryDefault z_counter z_held z_values z_kinds z_news) := hD
    refine lv_iinc (v := y3 + 1) (lv' := [(3, .int (y3 + 1)), (0, .ref a_z), (2, .int y2)]) hx hb dX9_change_84 hl (k := 2) rfl rfl (by decide) rfl (fun ls hl => ?_)
    refine lv_goto (tgt := 22) hx hb dX9_change_87 (by decide) ?_
    exact hk22 H locs g1 y2 (y3 + 1) h hP hD hS ls (lv_sub (l' := [(0, .ref a_z), (2, .int y2), (3, .int (y3 + 1))]) hl [1, 2, 0] rfl)
  have F54 : ∀ (k22 : (Nat → Int32) → Int32 → Int32 → Option ((Nat → Int32))) (hk22 : ∀ (H : Heap) (locs : List Loc) (w_z_s : Nat → Int32) (u2 : Int32) (u3 : Int32), k22 w_z_s u2 u3 = some r_z_s → va_P D vwCl (W_z cI cM a_z a_z_s a_z_past a_z_keeps a_z_entryKey a_z_entryDefault a_z_held a_z_values a_z_kinds a_z_news w_z_s z_past z_pasts z_changed z_entries z_keeps z_entryKey z_entryDefault z_counter z_held z_values z_kinds z_news) H → va_D (fun q => q ∈ w0.map (·.1)) (W_z cI cM a_z a_z_s a_z_past a_z_keeps a_z_entryKey a_z_entryDefault a_z_held a_z_values a_z_kinds a_z_news w_z_s z_past z_pasts z_changed z_entries z_keeps z_entryKey z_entryDefault z_counter z_held z_values z_kinds z_news) → va_S (fun q => q ∈ w0.map (·.1)) s.heap H locs → ∀ ls : Array Slot, lv_has ls 4 [(0, .ref a_z), (2, .int u2), (3, .int u3)] → WI p l e rmX9_change s m av below meth c D w0 w1 none H locs 22 ls []), ∀ (H : Heap) (locs : List Loc) (z_s : Nat → Int32) (y2 : Int32) (y3 : Int32) (s1 : Int32) (s2 : Int32), jX9_change_54 z_entries z_entryKey z_entryDefault k22 z_s y2 y3 s1 s2 = some r_z_s → va_P D vwCl (W_z cI cM a_z a_z_s a_z_past a_z_keeps a_z_entryKey a_z_entryDefault a_z_held a_z_values a_z_kinds a_z_news z_s z_past z_pasts z_changed z_entries z_keeps z_entryKey z_entryDefault z_counter z_held z_values z_kinds z_news) H → va_D (fun q => q ∈ (w0).map (·.1)) (W_z cI cM a_z a_z_s a_z_past a_z_keeps a_z_entryKey a_z_entryDefault a_z_held a_z_values a_z_kinds a_z_news z_s z_past z_pasts z_changed z_entries z_keeps z_entryKey z_entryDefault z_counter z_held z_values z_kinds z_news) → va_S (fun q => q ∈ (w0).map (·.1)) s.heap H locs → ∀ ls : Array Slot, lv_has ls 4 [(0, .ref a_z), (2, .int y2), (3, .int y3)] → WI p l e rmX9_change s m av below meth c D w0 w1 none H locs 54 ls [.int s2, .int s1, .ref a_z_s] := by
    intro k22 hk22
    intro H locs z_s y2 y3 s1 s2 h hP hD hS ls hl
    unfold jX9_change_54 at h
    obtain ⟨g1, ig1, eg1, h⟩ := wr_some h
    refine kAst hx hb hKK hP hD hS 1 rfl ig1 eg1 dX9_change_54 (fun H locs hP hD hS => ?_)
    have hP : va_P D vwCl (W_z cI cM a_z a_z_s a_z_past a_z_keeps a_z_entryKey a_z_entryDefault a_z_held a_z_values a_z_kinds a_z_news g1 z_past z_pasts z_changed z_entries z_keeps z_entryKey z_entryDefault z_counter z_held z_values z_kinds z_news) H := hP
    have hD : va_D _ (W_z cI cM a_z a_z_s a_z_past a_z_keeps a_z_entryKey a_z_entryDefault a_z_held a_z_values a_z_kinds a_z_news g1 z_past z_pasts z_changed z_entries z_keeps z_entryKey z_entryDefault z_counter z_held z_values z_kinds z_news) := hD
    refine lv_aload_n hx hb dX9_change_55 rfl (lv_at hl 0 rfl) ?_
    refine va_get (D := D) (ci := 9) (v := .ref a_z_s) (C := RX9) (T := TX9) (N := 13) hx hb hts hinX9 hown hKK.1 hP 0 rfl rfl 0 (by decide) lk7 (fun _ h9 => h9) rfl dX9_change_56 ?_
    refine lv_iload_n hx hb dX9_change_59 rfl (lv_at hl 1 rfl) ?_
    refine lv_bipush (v := 8) hx hb dX9_change_60 (by decide) ?_
    refine lv_iadd hx hb dX9_change_62 ?_
    refine lv_iload_n hx hb dX9_change_63 rfl (lv_at hl 2 rfl) ?_
    refine lv_iadd hx hb dX9_change_64 ?_
    refine lv_iload_n hx hb dX9_change_65 rfl (lv_at hl 2 rfl) ?_
    refine lv_aload_n hx hb dX9_change_66 rfl (lv_at hl 0 rfl) ?_
    refine va_get (D := D) (ci := 9) (v := .int z_entries) (C := RX9) (T := TX9) (N := 13) hx hb hts hinX9 hown hKK.1 hP 0 rfl rfl 4 (by decide) lk151 (fun _ h9 => h9) rfl dX9_change_67 ?_
    refine lv_icmp_ge (tgt := 82) hx hb dX9_change_70 (by decide) (fun c2 => ?_) (fun c2 => ?_)
    · have h := ifp h c2
      refine lv_iconst (v := 0) hx hb dX9_change_82 (by decide) ?_
      exact F83 k22 hk22 H locs g1 y2 y3 ((y2 + 8) + y3) 0 h hP hD hS ls (lv_sub (l' := [(0, .ref a_z), (2, .int y2), (3, .int y3)]) hl [0, 1, 2] rfl)
    · have h := ifn h c2
      refine lv_aload_n hx hb dX9_change_73 rfl (lv_at hl 0 rfl) ?_
      refine va_get (D := D) (ci := 9) (v := .ref a_z_entryDefault) (C := RX9) (T := TX9) (N := 13) hx hb hts hinX9 hown hKK.1 hP 0 rfl rfl 7 (by decide) lk26 (fun _ h9 => h9) rfl dX9_change_74 ?_
      refine lv_iload_n hx hb dX9_change_77 rfl (lv_at hl 2 rfl) ?_
      obtain ⟨v3, iv3, ev3, h⟩ := rd_some h
      refine kAld hx hb hKK hP 5 rfl iv3 ev3 dX9_change_78 ?_
      refine lv_goto (tgt := 83) hx hb dX9_change_79 (by decide) ?_
      exact F83 k22 hk22 H locs g1 y2 y3 ((y2 + 8) + y3) v3 h hP hD hS ls (lv_sub (l' := [(0, .ref a_z), (2, .int y2), (3, .int y3)]) hl [0, 1, 2] rfl)
  have F22 : ∀ (n : Nat) (H : Heap) (locs : List Loc) (z_s : Nat → Int32) (y2 : Int32) (y3 : Int32), lX9_change_22 z_entries z_entryKey z_entryDefault n z_s y2 y3 = some r_z_s → va_P D vwCl (W_z cI cM a_z a_z_s a_z_past a_z_keeps a_z_entryKey a_z_entryDefault a_z_held a_z_values a_z_kinds a_z_news z_s z_past z_pasts z_changed z_entries z_keeps z_entryKey z_entryDefault z_counter z_held z_values z_kinds z_news) H → va_D (fun q => q ∈ (w0).map (·.1)) (W_z cI cM a_z a_z_s a_z_past a_z_keeps a_z_entryKey a_z_entryDefault a_z_held a_z_values a_z_kinds a_z_news z_s z_past z_pasts z_changed z_entries z_keeps z_entryKey z_entryDefault z_counter z_held z_values z_kinds z_news) → va_S (fun q => q ∈ (w0).map (·.1)) s.heap H locs → ∀ ls : Array Slot, lv_has ls 4 [(0, .ref a_z), (2, .int y2), (3, .int y3)] → WI p l e rmX9_change s m av below meth c D w0 w1 none H locs 22 ls [] := by
    intro n
    induction n with
    | zero => intro H locs z_s y2 y3 h; exact no_some h
    | succ n ih =>
      intro H locs z_s y2 y3 h hP hD hS ls hl
      rw [lX9_change_22_s] at h
      refine lv_iload_n hx hb dX9_change_22 rfl (lv_at hl 2 rfl) ?_
      refine lv_iconst (v := 5) hx hb dX9_change_23 (by decide) ?_
      refine lv_icmp_ge (tgt := 90) hx hb dX9_change_24 (by decide) (fun c1 => ?_) (fun c1 => ?_)
      · have h := ifp h c1
        have e0 := Option.some.inj h
        exact kRetV hx hb hr hlk (by rw [← hw1, ← e0]; exact hP) hS dX9_change_90
      · have h := ifn h c1
        refine lv_aload_n hx hb dX9_change_27 rfl (lv_at hl 0 rfl) ?_
        refine va_get (D := D) (ci := 9) (v := .ref a_z_s) (C := RX9) (T := TX9) (N := 13) hx hb hts hinX9 hown hKK.1 hP 0 rfl rfl 0 (by decide) lk7 (fun _ h9 => h9) rfl dX9_change_28 ?_
        refine lv_iload_n hx hb dX9_change_31 rfl (lv_at hl 1 rfl) ?_
        refine lv_iconst (v := 3) hx hb dX9_change_32 (by decide) ?_
        refine lv_iadd hx hb dX9_change_33 ?_
        refine lv_iload_n hx hb dX9_change_34 rfl (lv_at hl 2 rfl) ?_
        refine lv_iadd hx hb dX9_change_35 ?_
        refine lv_iload_n hx hb dX9_change_36 rfl (lv_at hl 2 rfl) ?_
        refine lv_aload_n hx hb dX9_change_37 rfl (lv_at hl 0 rfl) ?_
        refine va_get (D := D) (ci := 9) (v := .int z_entries) (C := RX9) (T := TX9) (N := 13) hx hb hts hinX9 hown hKK.1 hP 0 rfl rfl 4 (by decide) lk151 (fun _ h9 => h9) rfl dX9_change_38 ?_
        refine lv_icmp_ge (tgt := 53) hx hb dX9_change_41 (by decide) (fun c2 => ?_) (fun c2 => ?_)
        · have h := ifp h c2
          refine lv_iconst (v := 0) hx hb dX9_change_53 (by decide) ?_
          exact F54 (fun w_z_s u2 u3 => lX9_change_22 z_entries z_entryKey z_entryDefault n w_z_s u2 u3) (fun H locs w_z_s u2 u3 h hP hD hS ls hl => ih H locs w_z_s u2 u3 h hP hD hS ls hl) H locs z_s y2 y3 ((y2 + 3) + y3) 0 h hP hD hS ls (lv_sub (l' := [(0, .ref a_z), (2, .int y2), (3, .int y3)]) hl [0, 1, 2] rfl)
        · have h := ifn h c2
          refine lv_aload_n hx hb dX9_change_44 rfl (lv_at hl 0 rfl) ?_
          refine va_get (D := D) (ci := 9) (v := .ref a_z_entryKey) (C := RX9) (T := TX9) (N := 13) hx hb hts hinX9 hown hKK.1 hP 0 rfl rfl 6 (by decide) lk23 (fun _ h9 => h9) rfl dX9_change_45 ?_
          refine lv_iload_n hx hb dX9_change_48 rfl (lv_at hl 2 rfl) ?_
          obtain ⟨v3, iv3, ev3, h⟩ := rd_some h
          refine kAld hx hb hKK hP 4 rfl iv3 ev3 dX9_change_49 ?_
          refine lv_goto (tgt := 54) hx hb dX9_change_50 (by decide) ?_
          exact F54 (fun w_z_s u2 u3 => lX9_change_22 z_entries z_entryKey z_entryDefault n w_z_s u2 u3) (fun H locs w_z_s u2 u3 h hP hD hS ls hl => ih H locs w_z_s u2 u3 h hP hD hS ls hl) H locs z_s y2 y3 ((y2 + 3) + y3) v3 h hP hD hS ls (lv_sub (l' := [(0, .ref a_z), (2, .int y2), (3, .int y3)]) hl [0, 1, 2] rfl)
  unfold fX9_change at h
  refine lv_bipush (v := 26) hx hb dX9_change_0 (by decide) ?_
  refine lv_bipush (v := 13) hx hb dX9_change_2 (by decide) ?_
  refine lv_iload_n hx hb dX9_change_4 rfl (lv_at hl 1 rfl) ?_
  refine lv_imul hx hb dX9_change_5 ?_
  refine lv_iadd hx hb dX9_change_6 ?_
  refine lv_istore_n (lv' := [(2, .int (26 + (13 * x1))), (0, .ref a_z), (1, .int x1)]) hx hb dX9_change_7 rfl hl (by decide) rfl (fun ls hl => ?_)
  refine lv_aload_n hx hb dX9_change_8 rfl (lv_at hl 1 rfl) ?_
  refine va_get (D := D) (ci := 9) (v := .ref a_z_s) (C := RX9) (T := TX9) (N := 13) hx hb hts hinX9 hown hKK.1 hP 0 rfl rfl 0 (by decide) lk7 (fun _ h9 => h9) rfl dX9_change_9 ?_
  refine lv_iload_n hx hb dX9_change_12 rfl (lv_at hl 0 rfl) ?_
  refine lv_iconst (v := 2) hx hb dX9_change_13 (by decide) ?_
  refine lv_iadd hx hb dX9_change_14 ?_
  refine lv_aload_n hx hb dX9_change_15 rfl (lv_at hl 1 rfl) ?_
  refine va_get (D := D) (ci := 9) (v := .int z_entries) (C := RX9) (T := TX9) (N := 13) hx hb hts hinX9 hown hKK.1 hP 0 rfl rfl 4 (by decide) lk151 (fun _ h9 => h9) rfl dX9_change_16 ?_
  obtain ⟨g1, ig1, eg1, h⟩ := wr_some h
  refine kAst hx hb hKK hP hD hS 1 rfl ig1 eg1 dX9_change_19 (fun H locs hP hD hS => ?_)
  have hP : va_P D vwCl (W_z cI cM a_z a_z_s a_z_past a_z_keeps a_z_entryKey a_z_entryDefault a_z_held a_z_values a_z_kinds a_z_news g1 z_past z_pasts z_changed z_entries z_keeps z_entryKey z_entryDefault z_counter z_held z_values z_kinds z_news) H := hP
  have hD : va_D _ (W_z cI cM a_z a_z_s a_z_past a_z_keeps a_z_entryKey a_z_entryDefault a_z_held a_z_values a_z_kinds a_z_news g1 z_past z_pasts z_changed z_entries z_keeps z_entryKey z_entryDefault z_counter z_held z_values z_kinds z_news) := hD
  refine lv_iconst (v := 0) hx hb dX9_change_20 (by decide) ?_
  refine lv_istore_n (lv' := [(3, .int 0), (2, .int (26 + (13 * x1))), (0, .ref a_z), (1, .int x1)]) hx hb dX9_change_21 rfl hl (by decide) rfl (fun ls hl => ?_)
  exact F22 5000 H locs g1 (26 + (13 * x1)) 0 h hP hD hS ls (lv_sub (l' := [(0, .ref a_z), (2, .int (26 + (13 * x1))), (3, .int 0)]) hl [2, 1, 0] rfl)
set_option maxHeartbeats 8000000 in
set_option maxRecDepth 100000 in
theorem qX9_applyChange (l : Launch) (D : va_G) (cI cM : ClassId) (a_z a_z_s a_z_past a_z_keeps a_z_entryKey a_z_entryDefault a_z_held a_z_values a_z_kinds a_z_news : Nat) (z_s : Nat → Int32) (z_past : Nat → Int32) (z_pasts : Int32) (z_changed : Int32) (z_entries : Int32) (z_keeps : Nat → Int32) (z_entryKey : Nat → Int32) (z_entryDefault : Nat → Int32) (z_counter : Int32) (z_held : Nat → Int32) (z_values : Nat → Int32) (z_kinds : Nat → Int32) (z_news : Nat → Int32) (r : Int32) (r_z_s : Nat → Int32) (r_z_past : Nat → Int32) (r_z_pasts : Int32) (r_z_changed : Int32) (r_z_kinds : Nat → Int32) (r_z_news : Nat → Int32) (h : fX9_applyChange z_s z_past z_pasts z_changed z_entries z_keeps z_entryKey z_entryDefault z_kinds z_news = some (r, r_z_s, r_z_past, r_z_pasts, r_z_changed, r_z_kinds, r_z_news)) : IM l yX9_applyChange wsX9_applyChange rmX9_applyChange D cI cM [.ref a_z] (W_z cI cM a_z a_z_s a_z_past a_z_keeps a_z_entryKey a_z_entryDefault a_z_held a_z_values a_z_kinds a_z_news z_s z_past z_pasts z_changed z_entries z_keeps z_entryKey z_entryDefault z_counter z_held z_values z_kinds z_news) (W_z cI cM a_z a_z_s a_z_past a_z_keeps a_z_entryKey a_z_entryDefault a_z_held a_z_values a_z_kinds a_z_news r_z_s r_z_past r_z_pasts r_z_changed z_entries z_keeps z_entryKey z_entryDefault z_counter z_held z_values r_z_kinds r_z_news) (some (.int r)) := by
  refine IM.of (cc := cX9_applyChange) (maxL := 5) (ret := (some .int)) (by decide) rfl (Nat.le_of_ble_eq_true rfl) ?_
  intro p e s m below meth c ls hx hb hr hml hown hts hlk hKK hP hD hS hl
  have hown : s.vm.findClass RX9 = some m.cls := hown
  have hl : lv_has ls 5 [(0, .ref a_z)] := hl
  generalize hav : ([.ref a_z] : List Value) = av at hts ⊢
  generalize hw1 : W_z cI cM a_z a_z_s a_z_past a_z_keeps a_z_entryKey a_z_entryDefault a_z_held a_z_values a_z_kinds a_z_news r_z_s r_z_past r_z_pasts r_z_changed z_entries z_keeps z_entryKey z_entryDefault z_counter z_held z_values r_z_kinds r_z_news = w1
  generalize hw0 : W_z cI cM a_z a_z_s a_z_past a_z_keeps a_z_entryKey a_z_entryDefault a_z_held a_z_values a_z_kinds a_z_news z_s z_past z_pasts z_changed z_entries z_keeps z_entryKey z_entryDefault z_counter z_held z_values z_kinds z_news = w0 at hD hS ⊢
  have hP : va_P D vwCl (W_z cI cM a_z a_z_s a_z_past a_z_keeps a_z_entryKey a_z_entryDefault a_z_held a_z_values a_z_kinds a_z_news z_s z_past z_pasts z_changed z_entries z_keeps z_entryKey z_entryDefault z_counter z_held z_values z_kinds z_news) s.heap := hP
  have hD : va_D (fun q => q ∈ w0.map (·.1)) (W_z cI cM a_z a_z_s a_z_past a_z_keeps a_z_entryKey a_z_entryDefault a_z_held a_z_values a_z_kinds a_z_news z_s z_past z_pasts z_changed z_entries z_keeps z_entryKey z_entryDefault z_counter z_held z_values z_kinds z_news) := by rw [hw0]; exact hD
  have SS : CallFix p m c cX9_applyChange 5 s av.toArray wsX9_applyChange RX9 := ⟨hx, hb, hml, hown, hts⟩
  have hinX9 : ∀ w ∈ u_ws RX9 TX9 13, w ∈ wsX9_applyChange := by decide +kernel
  have lk7 := hts (.fieldLink RX9 7 "SignatureChangerModel" "s" "[I") (List.mem_of_getElem? (i := 2) rfl)
  have lk16 := hts (.fieldLink RX9 16 "SignatureChangerModel" "changed" "I") (List.mem_of_getElem? (i := 1) rfl)
  have cw48 : CallB rmX9_applyChange s av.toArray RX9 48 yX9_has cX9_has 2 (some .boolean) wsX9_has rmX9_has 0 0 2 ∧ (Cond.static yX9_has).before av.toArray s = true := va_cwS 2 hts gX9_applyChange_X9_has rfl rfl rfl (by decide +kernel) ⟨Nat.le_of_ble_eq_true rfl, Nat.le_of_ble_eq_true rfl⟩
  have cw86 : CallW rmX9_applyChange s av.toArray RX9 RX9 86 yX9_edit cX9_edit 2 none wsX9_edit rmX9_edit 0 0 0 := cwV 0 hts gX9_applyChange_X9_edit rfl rfl rfl (by decide +kernel) ⟨Nat.le_of_ble_eq_true rfl, Nat.le_of_ble_eq_true rfl⟩
  have cw108 : CallW rmX9_applyChange s av.toArray RX9 RX9 108 yX9_familyOf cX9_familyOf 6 (some .int) wsX9_familyOf rmX9_familyOf 0 0 1 := cwV 1 hts gX9_applyChange_X9_familyOf rfl rfl rfl (by decide +kernel) ⟨Nat.le_of_ble_eq_true rfl, Nat.le_of_ble_eq_true rfl⟩
  have cw111 : CallW rmX9_applyChange s av.toArray RX9 RX9 111 yX9_at cX9_at 3 (some .int) wsX9_at rmX9_at 0 0 2 := cwV 2 hts gX9_applyChange_X9_at rfl rfl rfl (by decide +kernel) ⟨Nat.le_of_ble_eq_true rfl, Nat.le_of_ble_eq_true rfl⟩
  have cw123 : CallW rmX9_applyChange s av.toArray RX9 RX9 123 yX9_isFrozen cX9_isFrozen 2 (some .boolean) wsX9_isFrozen rmX9_isFrozen 0 0 1 := cwV 1 hts gX9_applyChange_X9_isFrozen rfl rfl rfl (by decide +kernel) ⟨Nat.le_of_ble_eq_true rfl, Nat.le_of_ble_eq_true rfl⟩
  have cw166 : CallW rmX9_applyChange s av.toArray RX9 RX9 166 yX9_clash cX9_clash 3 (some .int) wsX9_clash rmX9_clash 0 0 0 := cwV 0 hts gX9_applyChange_X9_clash rfl rfl rfl (by decide +kernel) ⟨Nat.le_of_ble_eq_true rfl, Nat.le_of_ble_eq_true rfl⟩
  have cw200 : CallW rmX9_applyChange s av.toArray RX9 RX9 200 yX9_isBarred cX9_isBarred 3 (some .boolean) wsX9_isBarred rmX9_isBarred 0 0 0 := cwV 0 hts gX9_applyChange_X9_isBarred rfl rfl rfl (by decide +kernel) ⟨Nat.le_of_ble_eq_true rfl, Nat.le_of_ble_eq_true rfl⟩
  have cw203 : CallW rmX9_applyChange s av.toArray RX9 RX9 203 yX9_hasRoom cX9_hasRoom 3 (some .boolean) wsX9_hasRoom rmX9_hasRoom 0 0 0 := cwV 0 hts gX9_applyChange_X9_hasRoom rfl rfl rfl (by decide +kernel) ⟨Nat.le_of_ble_eq_true rfl, Nat.le_of_ble_eq_true rfl⟩
  have cw206 : CallW rmX9_applyChange s av.toArray RX9 RX9 206 yX9_rewrite cX9_rewrite 6 none wsX9_rewrite rmX9_rewrite 0 0 1 := cwV 1 hts gX9_applyChange_X9_rewrite rfl rfl rfl (by decide +kernel) ⟨Nat.le_of_ble_eq_true rfl, Nat.le_of_ble_eq_true rfl⟩
  have cw209 : CallW rmX9_applyChange s av.toArray RX9 RX9 209 yX9_change cX9_change 4 none wsX9_change rmX9_change 0 0 1 := cwV 1 hts gX9_applyChange_X9_change rfl rfl rfl (by decide +kernel) ⟨Nat.le_of_ble_eq_true rfl, Nat.le_of_ble_eq_true rfl⟩
  have F122 : ∀ (n : Nat) (H : Heap) (locs : List Loc) (z_s : Nat → Int32) (z_past : Nat → Int32) (z_pasts : Int32) (z_changed : Int32) (z_kinds : Nat → Int32) (z_news : Nat → Int32) (y2 : Int32) (y3 : Int32) (y4 : Int32), lX9_applyChange_122 z_entries z_keeps z_entryKey z_entryDefault n z_s z_past z_pasts z_changed z_kinds z_news y2 y3 y4 = some (r, r_z_s, r_z_past, r_z_pasts, r_z_changed, r_z_kinds, r_z_news) → va_P D vwCl (W_z cI cM a_z a_z_s a_z_past a_z_keeps a_z_entryKey a_z_entryDefault a_z_held a_z_values a_z_kinds a_z_news z_s z_past z_pasts z_changed z_entries z_keeps z_entryKey z_entryDefault z_counter z_held z_values z_kinds z_news) H → va_D (fun q => q ∈ (w0).map (·.1)) (W_z cI cM a_z a_z_s a_z_past a_z_keeps a_z_entryKey a_z_entryDefault a_z_held a_z_values a_z_kinds a_z_news z_s z_past z_pasts z_changed z_entries z_keeps z_entryKey z_entryDefault z_counter z_held z_values z_kinds z_news) → va_S (fun q => q ∈ (w0).map (·.1)) s.heap H locs → ∀ ls : Array Slot, lv_has ls 5 [(0, .ref a_z), (2, .int y2), (3, .int y3), (4, .int y4)] → WI p l e rmX9_applyChange s m av below meth c D w0 w1 (some (.int r)) H locs 122 ls [] := by
    intro n
    induction n with
    | zero => intro H locs z_s z_past z_pasts z_changed z_kinds z_news y2 y3 y4 h; exact no_some h
    | succ n ih =>
      intro H locs z_s z_past z_pasts z_changed z_kinds z_news y2 y3 y4 h hP hD hS ls hl
      rw [lX9_applyChange_122_s] at h
      refine lv_iload hx hb dX9_applyChange_122 (lv_at hl 3 rfl) ?_
      refine lv_aload_n hx hb dX9_applyChange_124 rfl (lv_at hl 0 rfl) ?_
      refine va_get (D := D) (ci := 9) (v := .ref a_z_s) (C := RX9) (T := TX9) (N := 13) hx hb hts hinX9 hown hKK.1 hP 0 rfl rfl 0 (by decide) lk7 (fun _ h9 => h9) rfl dX9_applyChange_125 ?_
      refine lv_bipush (v := 25) hx hb dX9_applyChange_128 (by decide) ?_
      obtain ⟨v1, iv1, ev1, h⟩ := rd_some h
      refine kAld hx hb hKK hP 1 rfl iv1 ev1 dX9_applyChange_130 ?_
      refine lv_icmp_ge (tgt := 155) hx hb dX9_applyChange_131 (by decide) (fun c2 => ?_) (fun c2 => ?_)
      · have h := ifp h c2
        refine lv_aload_n hx hb dX9_applyChange_155 rfl (lv_at hl 0 rfl) ?_
        refine lv_bipush (v := (-9)) hx hb dX9_applyChange_156 (by decide) ?_
        refine va_put (D := D) (ci := 9) (v := .int (-9)) (ty := .int) (C := RX9) (T := TX9) (N := 13) hx hb hts hinX9 tyX9 tyX9_ok nmX9 hown hKK.1 hP hD hS 0 rfl rfl 3 (by decide) lk16 (fun _ h9 => h9) rfl (by decide +kernel) rfl rfl (Nat.le_of_ble_eq_true rfl) dX9_applyChange_158 (fun H locs hP hD hS => ?_)
        have hP : va_P D vwCl (W_z cI cM a_z a_z_s a_z_past a_z_keeps a_z_entryKey a_z_entryDefault a_z_held a_z_values a_z_kinds a_z_news z_s z_past z_pasts (-9) z_entries z_keeps z_entryKey z_entryDefault z_counter z_held z_values z_kinds z_news) H := hP
        have hD : va_D _ (W_z cI cM a_z a_z_s a_z_past a_z_keeps a_z_entryKey a_z_entryDefault a_z_held a_z_values a_z_kinds a_z_news z_s z_past z_pasts (-9) z_entries z_keeps z_entryKey z_entryDefault z_counter z_held z_values z_kinds z_news) := hD
        refine lv_iload_n hx hb dX9_applyChange_161 rfl (lv_at hl 2 rfl) ?_
        simp only [Option.some.injEq, Prod.mk.injEq] at h
        obtain ⟨e0, e1, e2, e3, e4, e5, e6⟩ := h
        exact kRetI hx hb hr hlk e0 (by rw [← hw1, ← e1, ← e2, ← e3, ← e4, ← e5, ← e6]; exact hP) hS dX9_applyChange_162
      · have h := ifn h c2
        refine lv_iload_n hx hb dX9_applyChange_134 rfl (lv_at hl 1 rfl) ?_
        refine lv_iload hx hb dX9_applyChange_135 (lv_at hl 3 rfl) ?_
        obtain ⟨v3, ev3, h⟩ := bn_some h
        refine kS (As := [.int y2, .int y4]) (rest := []) SS hKK (qX9_has l D cI cM y2 y4 v3 ev3) cw48 va_P_nil rfl hl.1 rfl (Nat.le_of_ble_eq_true rfl) dX9_applyChange_137 ⟨Nat.zero_le _, Nat.zero_le _⟩ ?_
        refine lv_if_eq (tgt := 149) hx hb dX9_applyChange_140 (by decide) (fun c4 => ?_) (fun c4 => ?_)
        · have h := ifp h c4
          refine lv_iinc (v := y4 + 1) (lv' := [(4, .int (y4 + 1)), (0, .ref a_z), (2, .int y2), (3, .int y3)]) hx hb dX9_applyChange_149 hl (k := 3) rfl rfl (by decide) rfl (fun ls hl => ?_)
          refine lv_goto (tgt := 122) hx hb dX9_applyChange_152 (by decide) ?_
          exact ih H locs z_s z_past z_pasts z_changed z_kinds z_news y2 y3 (y4 + 1) h hP hD hS ls (lv_sub (l' := [(0, .ref a_z), (2, .int y2), (3, .int y3), (4, .int (y4 + 1))]) hl [1, 2, 3, 0] rfl)
        · have h := ifn h c4
          refine lv_aload_n hx hb dX9_applyChange_143 rfl (lv_at hl 0 rfl) ?_
          refine lv_iload hx hb dX9_applyChange_144 (lv_at hl 3 rfl) ?_
          obtain ⟨g5, eg5, h⟩ := bn_some h
          refine kVI (As := [.int y4]) (rest := []) (st1 := []) SS hKK (qX9_change l D cI cM a_z a_z_s a_z_past a_z_keeps a_z_entryKey a_z_entryDefault a_z_held a_z_values a_z_kinds a_z_news z_s z_past z_pasts z_changed z_entries z_keeps z_entryKey z_entryDefault z_counter z_held z_values z_kinds z_news y4 g5 eg5) cw209 hP hD hS [0, 1, 2, 3, 4, 5, 6, 7, 8, 9] rfl rfl rfl rfl 0 9 rfl rfl rfl hl.1 rfl (Nat.le_of_ble_eq_true rfl) dX9_applyChange_146 ⟨Nat.zero_le _, Nat.zero_le _⟩ rfl (fun H locs hP hD hS => ?_)
          have hP : va_P D vwCl (W_z cI cM a_z a_z_s a_z_past a_z_keeps a_z_entryKey a_z_entryDefault a_z_held a_z_values a_z_kinds a_z_news g5 z_past z_pasts z_changed z_entries z_keeps z_entryKey z_entryDefault z_counter z_held z_values z_kinds z_news) H := hP
          have hD : va_D _ (W_z cI cM a_z a_z_s a_z_past a_z_keeps a_z_entryKey a_z_entryDefault a_z_held a_z_values a_z_kinds a_z_news g5 z_past z_pasts z_changed z_entries z_keeps z_entryKey z_entryDefault z_counter z_held z_values z_kinds z_news) := hD
          refine lv_iinc (v := y4 + 1) (lv' := [(4, .int (y4 + 1)), (0, .ref a_z), (2, .int y2), (3, .int y3)]) hx hb dX9_applyChange_149 hl (k := 3) rfl rfl (by decide) rfl (fun ls hl => ?_)
          refine lv_goto (tgt := 122) hx hb dX9_applyChange_152 (by decide) ?_
          exact ih H locs g5 z_past z_pasts z_changed z_kinds z_news y2 y3 (y4 + 1) h hP hD hS ls (lv_sub (l' := [(0, .ref a_z), (2, .int y2), (3, .int y3), (4, .int (y4 + 1))]) hl [1, 2, 3, 0] rfl)
  have F63 : ∀ (n : Nat) (H : Heap) (locs : List Loc) (z_s : Nat → Int32) (z_past : Nat → Int32) (z_pasts : Int32) (z_changed : Int32) (z_kinds : Nat → Int32) (z_news : Nat → Int32) (y2 : Int32) (y3 : Int32) (y4 : Int32), lX9_applyChange_63 z_entries z_keeps z_entryKey z_entryDefault n z_s z_past z_pasts z_changed z_kinds z_news y2 y3 y4 = some (r, r_z_s, r_z_past, r_z_pasts, r_z_changed, r_z_kinds, r_z_news) → va_P D vwCl (W_z cI cM a_z a_z_s a_z_past a_z_keeps a_z_entryKey a_z_entryDefault a_z_held a_z_values a_z_kinds a_z_news z_s z_past z_pasts z_changed z_entries z_keeps z_entryKey z_entryDefault z_counter z_held z_values z_kinds z_news) H → va_D (fun q => q ∈ (w0).map (·.1)) (W_z cI cM a_z a_z_s a_z_past a_z_keeps a_z_entryKey a_z_entryDefault a_z_held a_z_values a_z_kinds a_z_news z_s z_past z_pasts z_changed z_entries z_keeps z_entryKey z_entryDefault z_counter z_held z_values z_kinds z_news) → va_S (fun q => q ∈ (w0).map (·.1)) s.heap H locs → ∀ ls : Array Slot, lv_has ls 5 [(0, .ref a_z), (2, .int y2), (3, .int y3), (4, .int y4)] → WI p l e rmX9_applyChange s m av below meth c D w0 w1 (some (.int r)) H locs 63 ls [] := by
    intro n
    induction n with
    | zero => intro H locs z_s z_past z_pasts z_changed z_kinds z_news y2 y3 y4 h; exact no_some h
    | succ n ih =>
      intro H locs z_s z_past z_pasts z_changed z_kinds z_news y2 y3 y4 h hP hD hS ls hl
      rw [lX9_applyChange_63_s] at h
      refine lv_iload hx hb dX9_applyChange_63 (lv_at hl 3 rfl) ?_
      refine lv_aload_n hx hb dX9_applyChange_65 rfl (lv_at hl 0 rfl) ?_
      refine va_get (D := D) (ci := 9) (v := .ref a_z_s) (C := RX9) (T := TX9) (N := 13) hx hb hts hinX9 hown hKK.1 hP 0 rfl rfl 0 (by decide) lk7 (fun _ h9 => h9) rfl dX9_applyChange_66 ?_
      refine lv_sipush (v := 234) hx hb dX9_applyChange_69 (by decide) ?_
      obtain ⟨v1, iv1, ev1, h⟩ := rd_some h
      refine kAld hx hb hKK hP 1 rfl iv1 ev1 dX9_applyChange_72 ?_
      refine lv_icmp_ge (tgt := 119) hx hb dX9_applyChange_73 (by decide) (fun c2 => ?_) (fun c2 => ?_)
      · have h := ifp h c2
        refine lv_iconst (v := 0) hx hb dX9_applyChange_119 (by decide) ?_
        refine lv_istore (lv' := [(4, .int 0), (0, .ref a_z), (2, .int y2), (3, .int y3)]) hx hb dX9_applyChange_120 hl (by decide) rfl (fun ls hl => ?_)
        exact F122 5000 H locs z_s z_past z_pasts z_changed z_kinds z_news y2 y3 0 h hP hD hS ls (lv_sub (l' := [(0, .ref a_z), (2, .int y2), (3, .int y3), (4, .int 0)]) hl [1, 2, 3, 0] rfl)
      · have h := ifn h c2
        refine lv_aload_n hx hb dX9_applyChange_76 rfl (lv_at hl 0 rfl) ?_
        refine lv_iload hx hb dX9_applyChange_77 (lv_at hl 3 rfl) ?_
        obtain ⟨v3, ev3, h⟩ := bn_some h
        have hs4 : va_P D vwCl (W_z cI cM a_z a_z_s a_z_past a_z_keeps a_z_entryKey a_z_entryDefault a_z_held a_z_values a_z_kinds a_z_news z_s z_past z_pasts z_changed z_entries z_keeps z_entryKey z_entryDefault z_counter z_held z_values z_kinds z_news) _ := hP.sub (ws' := W_z cI cM a_z a_z_s a_z_past a_z_keeps a_z_entryKey a_z_entryDefault a_z_held a_z_values a_z_kinds a_z_news z_s z_past z_pasts z_changed z_entries z_keeps z_entryKey z_entryDefault z_counter z_held z_values z_kinds z_news) [0, 1, 2, 3, 4, 5, 6, 7, 8, 9] rfl
        refine kV (As := [.int y4]) (rest := []) SS hKK (qX9_isFrozen l D cI cM a_z a_z_s a_z_past a_z_keeps a_z_entryKey a_z_entryDefault a_z_held a_z_values a_z_kinds a_z_news z_s z_past z_pasts z_changed z_entries z_keeps z_entryKey z_entryDefault z_counter z_held z_values z_kinds z_news y4 v3 ev3) cw123 hs4 0 9 rfl rfl rfl hl.1 rfl (Nat.le_of_ble_eq_true rfl) dX9_applyChange_79 ⟨Nat.zero_le _, Nat.zero_le _⟩ ?_
        refine lv_if_ne (tgt := 113) hx hb dX9_applyChange_82 (by decide) (fun c5 => ?_) (fun c5 => ?_)
        · have h := ifn h c5
          refine lv_iinc (v := y4 + 1) (lv' := [(4, .int (y4 + 1)), (0, .ref a_z), (2, .int y2), (3, .int y3)]) hx hb dX9_applyChange_113 hl (k := 3) rfl rfl (by decide) rfl (fun ls hl => ?_)
          refine lv_goto (tgt := 63) hx hb dX9_applyChange_116 (by decide) ?_
          exact ih H locs z_s z_past z_pasts z_changed z_kinds z_news y2 y3 (y4 + 1) h hP hD hS ls (lv_sub (l' := [(0, .ref a_z), (2, .int y2), (3, .int y3), (4, .int (y4 + 1))]) hl [1, 2, 3, 0] rfl)
        · have h := ifp h c5
          refine lv_iload_n hx hb dX9_applyChange_85 rfl (lv_at hl 1 rfl) ?_
          refine lv_aload_n hx hb dX9_applyChange_86 rfl (lv_at hl 0 rfl) ?_
          refine va_get (D := D) (ci := 9) (v := .ref a_z_s) (C := RX9) (T := TX9) (N := 13) hx hb hts hinX9 hown hKK.1 hP 0 rfl rfl 0 (by decide) lk7 (fun _ h9 => h9) rfl dX9_applyChange_87 ?_
          refine lv_aload_n hx hb dX9_applyChange_90 rfl (lv_at hl 0 rfl) ?_
          refine lv_iload hx hb dX9_applyChange_91 (lv_at hl 3 rfl) ?_
          refine lv_iconst (v := 2) hx hb dX9_applyChange_93 (by decide) ?_
          obtain ⟨v6, ev6, h⟩ := bn_some h
          refine kV (As := [.int y4, .int 2]) (rest := [.ref a_z_s, .int y2]) SS hKK (qX9_at l D cI cM a_z a_z_s a_z_past a_z_keeps a_z_entryKey a_z_entryDefault a_z_held a_z_values a_z_kinds a_z_news z_s z_past z_pasts z_changed z_entries z_keeps z_entryKey z_entryDefault z_counter z_held z_values z_kinds z_news y4 2 v6 ev6) cw111 hs4 0 9 rfl rfl rfl hl.1 rfl (Nat.le_of_ble_eq_true rfl) dX9_applyChange_94 ⟨Nat.zero_le _, Nat.zero_le _⟩ ?_
          obtain ⟨v7, iv7, ev7, h⟩ := rd_some h
          refine kAld hx hb hKK hP 1 rfl iv7 ev7 dX9_applyChange_97 ?_
          obtain ⟨v8, ev8, h⟩ := bn_some h
          refine kS (As := [.int y2, .int v7]) (rest := []) SS hKK (qX9_has l D cI cM y2 v7 v8 ev8) cw48 va_P_nil rfl hl.1 rfl (Nat.le_of_ble_eq_true rfl) dX9_applyChange_98 ⟨Nat.zero_le _, Nat.zero_le _⟩ ?_
          refine lv_if_eq (tgt := 113) hx hb dX9_applyChange_101 (by decide) (fun c9 => ?_) (fun c9 => ?_)
          · have h := ifp h c9
            refine lv_iinc (v := y4 + 1) (lv' := [(4, .int (y4 + 1)), (0, .ref a_z), (2, .int y2), (3, .int y3)]) hx hb dX9_applyChange_113 hl (k := 3) rfl rfl (by decide) rfl (fun ls hl => ?_)
            refine lv_goto (tgt := 63) hx hb dX9_applyChange_116 (by decide) ?_
            exact ih H locs z_s z_past z_pasts z_changed z_kinds z_news y2 y3 (y4 + 1) h hP hD hS ls (lv_sub (l' := [(0, .ref a_z), (2, .int y2), (3, .int y3), (4, .int (y4 + 1))]) hl [1, 2, 3, 0] rfl)
          · have h := ifn h c9
            refine lv_aload_n hx hb dX9_applyChange_104 rfl (lv_at hl 0 rfl) ?_
            refine lv_iload hx hb dX9_applyChange_105 (lv_at hl 3 rfl) ?_
            obtain ⟨g10, g11, g12, eg10, h⟩ := bn3_some h
            refine kVI (As := [.int y4]) (rest := []) (st1 := []) SS hKK (qX9_rewrite l D cI cM a_z a_z_s a_z_past a_z_keeps a_z_entryKey a_z_entryDefault a_z_held a_z_values a_z_kinds a_z_news z_s z_past z_pasts z_changed z_entries z_keeps z_entryKey z_entryDefault z_counter z_held z_values z_kinds z_news y4 g10 g11 g12 eg10) cw206 hP hD hS [0, 1, 2, 3, 4, 5, 6, 7, 8, 9] rfl rfl rfl rfl 0 9 rfl rfl rfl hl.1 rfl (Nat.le_of_ble_eq_true rfl) dX9_applyChange_107 ⟨Nat.zero_le _, Nat.zero_le _⟩ rfl (fun H locs hP hD hS => ?_)
            have hP : va_P D vwCl (W_z cI cM a_z a_z_s a_z_past a_z_keeps a_z_entryKey a_z_entryDefault a_z_held a_z_values a_z_kinds a_z_news g10 z_past z_pasts z_changed z_entries z_keeps z_entryKey z_entryDefault z_counter z_held z_values g11 g12) H := hP
            have hD : va_D _ (W_z cI cM a_z a_z_s a_z_past a_z_keeps a_z_entryKey a_z_entryDefault a_z_held a_z_values a_z_kinds a_z_news g10 z_past z_pasts z_changed z_entries z_keeps z_entryKey z_entryDefault z_counter z_held z_values g11 g12) := hD
            refine lv_iinc (v := y3 + 1) (lv' := [(3, .int (y3 + 1)), (0, .ref a_z), (2, .int y2), (4, .int y4)]) hx hb dX9_applyChange_110 hl (k := 2) rfl rfl (by decide) rfl (fun ls hl => ?_)
            refine lv_iinc (v := y4 + 1) (lv' := [(4, .int (y4 + 1)), (3, .int (y3 + 1)), (0, .ref a_z), (2, .int y2)]) hx hb dX9_applyChange_113 hl (k := 3) rfl rfl (by decide) rfl (fun ls hl => ?_)
            refine lv_goto (tgt := 63) hx hb dX9_applyChange_116 (by decide) ?_
            exact ih H locs g10 z_past z_pasts z_changed g11 g12 y2 (y3 + 1) (y4 + 1) h hP hD hS ls (lv_sub (l' := [(0, .ref a_z), (2, .int y2), (3, .int (y3 + 1)), (4, .int (y4 + 1))]) hl [2, 3, 1, 0] rfl)
  unfold fX9_applyChange at h
  refine lv_aload_n hx hb dX9_applyChange_0 rfl (lv_at hl 0 rfl) ?_
  refine va_get (D := D) (ci := 9) (v := .int z_changed) (C := RX9) (T := TX9) (N := 13) hx hb hts hinX9 hown hKK.1 hP 0 rfl rfl 3 (by decide) lk16 (fun _ h9 => h9) rfl dX9_applyChange_1 ?_
  refine lv_bipush (v := (-9)) hx hb dX9_applyChange_4 (by decide) ?_
  refine lv_icmp_eq (tgt := 25) hx hb dX9_applyChange_6 (by decide) (fun c1 => ?_) (fun c1 => ?_)
  · have h := ifp h c1
    refine lv_bipush (v := (-2)) hx hb dX9_applyChange_25 (by decide) ?_
    simp only [Option.some.injEq, Prod.mk.injEq] at h
    obtain ⟨e0, e1, e2, e3, e4, e5, e6⟩ := h
    exact kRetI hx hb hr hlk e0 (by rw [← hw1, ← e1, ← e2, ← e3, ← e4, ← e5, ← e6]; exact hP) hS dX9_applyChange_27
  · have h := ifn h c1
    refine lv_aload_n hx hb dX9_applyChange_9 rfl (lv_at hl 0 rfl) ?_
    obtain ⟨v2, ev2, h⟩ := bn_some h
    have hs3 : va_P D vwCl (W_z cI cM a_z a_z_s a_z_past a_z_keeps a_z_entryKey a_z_entryDefault a_z_held a_z_values a_z_kinds a_z_news z_s z_past z_pasts z_changed z_entries z_keeps z_entryKey z_entryDefault z_counter z_held z_values z_kinds z_news) _ := hP.sub (ws' := W_z cI cM a_z a_z_s a_z_past a_z_keeps a_z_entryKey a_z_entryDefault a_z_held a_z_values a_z_kinds a_z_news z_s z_past z_pasts z_changed z_entries z_keeps z_entryKey z_entryDefault z_counter z_held z_values z_kinds z_news) [0, 1, 2, 3, 4, 5, 6, 7, 8, 9] rfl
    refine kV (As := []) (rest := []) SS hKK (qX9_clash l D cI cM a_z a_z_s a_z_past a_z_keeps a_z_entryKey a_z_entryDefault a_z_held a_z_values a_z_kinds a_z_news z_s z_past z_pasts z_changed z_entries z_keeps z_entryKey z_entryDefault z_counter z_held z_values z_kinds z_news v2 ev2) cw166 hs3 0 9 rfl rfl rfl hl.1 rfl (Nat.le_of_ble_eq_true rfl) dX9_applyChange_10 ⟨Nat.zero_le _, Nat.zero_le _⟩ ?_
    refine lv_bipush (v := (-9)) hx hb dX9_applyChange_13 (by decide) ?_
    refine lv_icmp_ne (tgt := 25) hx hb dX9_applyChange_15 (by decide) (fun c4 => ?_) (fun c4 => ?_)
    · have h := ifn h c4
      refine lv_bipush (v := (-2)) hx hb dX9_applyChange_25 (by decide) ?_
      simp only [Option.some.injEq, Prod.mk.injEq] at h
      obtain ⟨e0, e1, e2, e3, e4, e5, e6⟩ := h
      exact kRetI hx hb hr hlk e0 (by rw [← hw1, ← e1, ← e2, ← e3, ← e4, ← e5, ← e6]; exact hP) hS dX9_applyChange_27
    · have h := ifp h c4
      refine lv_aload_n hx hb dX9_applyChange_18 rfl (lv_at hl 0 rfl) ?_
      obtain ⟨v5, ev5, h⟩ := bn_some h
      refine kV (As := []) (rest := []) SS hKK (qX9_isBarred l D cI cM a_z a_z_s a_z_past a_z_keeps a_z_entryKey a_z_entryDefault a_z_held a_z_values a_z_kinds a_z_news z_s z_past z_pasts z_changed z_entries z_keeps z_entryKey z_entryDefault z_counter z_held z_values z_kinds z_news v5 ev5) cw200 hs3 0 9 rfl rfl rfl hl.1 rfl (Nat.le_of_ble_eq_true rfl) dX9_applyChange_19 ⟨Nat.zero_le _, Nat.zero_le _⟩ ?_
      refine lv_if_eq (tgt := 28) hx hb dX9_applyChange_22 (by decide) (fun c6 => ?_) (fun c6 => ?_)
      · have h := ifp h c6
        refine lv_aload_n hx hb dX9_applyChange_28 rfl (lv_at hl 0 rfl) ?_
        obtain ⟨v7, ev7, h⟩ := bn_some h
        refine kV (As := []) (rest := []) SS hKK (qX9_hasRoom l D cI cM a_z a_z_s a_z_past a_z_keeps a_z_entryKey a_z_entryDefault a_z_held a_z_values a_z_kinds a_z_news z_s z_past z_pasts z_changed z_entries z_keeps z_entryKey z_entryDefault z_counter z_held z_values z_kinds z_news v7 ev7) cw203 hs3 0 9 rfl rfl rfl hl.1 rfl (Nat.le_of_ble_eq_true rfl) dX9_applyChange_29 ⟨Nat.zero_le _, Nat.zero_le _⟩ ?_
        refine lv_if_ne (tgt := 38) hx hb dX9_applyChange_32 (by decide) (fun c8 => ?_) (fun c8 => ?_)
        · have h := ifn h c8
          refine lv_aload_n hx hb dX9_applyChange_38 rfl (lv_at hl 0 rfl) ?_
          refine va_get (D := D) (ci := 9) (v := .int z_changed) (C := RX9) (T := TX9) (N := 13) hx hb hts hinX9 hown hKK.1 hP 0 rfl rfl 3 (by decide) lk16 (fun _ h9 => h9) rfl dX9_applyChange_39 ?_
          refine lv_istore_n (lv' := [(1, .int z_changed), (0, .ref a_z)]) hx hb dX9_applyChange_42 rfl hl (by decide) rfl (fun ls hl => ?_)
          refine lv_aload_n hx hb dX9_applyChange_43 rfl (lv_at hl 1 rfl) ?_
          obtain ⟨g9, g10, g11, eg9, h⟩ := bn3_some h
          refine kVI (As := []) (rest := []) (st1 := []) SS hKK (qX9_edit l D cI cM a_z a_z_s a_z_past a_z_keeps a_z_entryKey a_z_entryDefault a_z_held a_z_values a_z_kinds a_z_news z_s z_past z_pasts z_changed z_entries z_keeps z_entryKey z_entryDefault z_counter z_held z_values z_kinds z_news g9 g10 g11 eg9) cw86 hP hD hS [0, 1, 2, 3, 4, 5, 6, 7, 8, 9] rfl rfl rfl rfl 0 9 rfl rfl rfl hl.1 rfl (Nat.le_of_ble_eq_true rfl) dX9_applyChange_44 ⟨Nat.zero_le _, Nat.zero_le _⟩ rfl (fun H locs hP hD hS => ?_)
          have hP : va_P D vwCl (W_z cI cM a_z a_z_s a_z_past a_z_keeps a_z_entryKey a_z_entryDefault a_z_held a_z_values a_z_kinds a_z_news z_s g9 g10 g11 z_entries z_keeps z_entryKey z_entryDefault z_counter z_held z_values z_kinds z_news) H := hP
          have hD : va_D _ (W_z cI cM a_z a_z_s a_z_past a_z_keeps a_z_entryKey a_z_entryDefault a_z_held a_z_values a_z_kinds a_z_news z_s g9 g10 g11 z_entries z_keeps z_entryKey z_entryDefault z_counter z_held z_values z_kinds z_news) := hD
          refine lv_aload_n hx hb dX9_applyChange_47 rfl (lv_at hl 1 rfl) ?_
          refine lv_iload_n hx hb dX9_applyChange_48 rfl (lv_at hl 0 rfl) ?_
          refine va_put (D := D) (ci := 9) (v := .int z_changed) (ty := .int) (C := RX9) (T := TX9) (N := 13) hx hb hts hinX9 tyX9 tyX9_ok nmX9 hown hKK.1 hP hD hS 0 rfl rfl 3 (by decide) lk16 (fun _ h9 => h9) rfl (by decide +kernel) rfl rfl (Nat.le_of_ble_eq_true rfl) dX9_applyChange_49 (fun H locs hP hD hS => ?_)
          have hP : va_P D vwCl (W_z cI cM a_z a_z_s a_z_past a_z_keeps a_z_entryKey a_z_entryDefault a_z_held a_z_values a_z_kinds a_z_news z_s g9 g10 z_changed z_entries z_keeps z_entryKey z_entryDefault z_counter z_held z_values z_kinds z_news) H := hP
          have hD : va_D _ (W_z cI cM a_z a_z_s a_z_past a_z_keeps a_z_entryKey a_z_entryDefault a_z_held a_z_values a_z_kinds a_z_news z_s g9 g10 z_changed z_entries z_keeps z_entryKey z_entryDefault z_counter z_held z_values z_kinds z_news) := hD
          refine lv_aload_n hx hb dX9_applyChange_52 rfl (lv_at hl 1 rfl) ?_
          refine lv_iload_n hx hb dX9_applyChange_53 rfl (lv_at hl 0 rfl) ?_
          obtain ⟨v12, ev12, h⟩ := bn_some h
          have hs13 : va_P D vwCl (W_z cI cM a_z a_z_s a_z_past a_z_keeps a_z_entryKey a_z_entryDefault a_z_held a_z_values a_z_kinds a_z_news z_s g9 g10 z_changed z_entries z_keeps z_entryKey z_entryDefault z_counter z_held z_values z_kinds z_news) _ := hP.sub (ws' := W_z cI cM a_z a_z_s a_z_past a_z_keeps a_z_entryKey a_z_entryDefault a_z_held a_z_values a_z_kinds a_z_news z_s g9 g10 z_changed z_entries z_keeps z_entryKey z_entryDefault z_counter z_held z_values z_kinds z_news) [0, 1, 2, 3, 4, 5, 6, 7, 8, 9] rfl
          refine kV (As := [.int z_changed]) (rest := []) SS hKK (qX9_familyOf l D cI cM a_z a_z_s a_z_past a_z_keeps a_z_entryKey a_z_entryDefault a_z_held a_z_values a_z_kinds a_z_news z_s g9 g10 z_changed z_entries z_keeps z_entryKey z_entryDefault z_counter z_held z_values z_kinds z_news z_changed v12 ev12) cw108 hs13 0 9 rfl rfl rfl hl.1 rfl (Nat.le_of_ble_eq_true rfl) dX9_applyChange_54 ⟨Nat.zero_le _, Nat.zero_le _⟩ ?_
          refine lv_istore_n (lv' := [(2, .int v12), (1, .int z_changed), (0, .ref a_z)]) hx hb dX9_applyChange_57 rfl hl (by decide) rfl (fun ls hl => ?_)
          refine lv_iconst (v := 0) hx hb dX9_applyChange_58 (by decide) ?_
          refine lv_istore_n (lv' := [(3, .int 0), (2, .int v12), (1, .int z_changed), (0, .ref a_z)]) hx hb dX9_applyChange_59 rfl hl (by decide) rfl (fun ls hl => ?_)
          refine lv_iconst (v := 0) hx hb dX9_applyChange_60 (by decide) ?_
          refine lv_istore (lv' := [(4, .int 0), (3, .int 0), (2, .int v12), (1, .int z_changed), (0, .ref a_z)]) hx hb dX9_applyChange_61 hl (by decide) rfl (fun ls hl => ?_)
          exact F63 5000 H locs z_s g9 g10 z_changed z_kinds z_news v12 0 0 h hP hD hS ls (lv_sub (l' := [(0, .ref a_z), (2, .int v12), (3, .int 0), (4, .int 0)]) hl [4, 2, 1, 0] rfl)
        · have h := ifp h c8
          refine lv_bipush (v := (-3)) hx hb dX9_applyChange_35 (by decide) ?_
          simp only [Option.some.injEq, Prod.mk.injEq] at h
          obtain ⟨e0, e1, e2, e3, e4, e5, e6⟩ := h
          exact kRetI hx hb hr hlk e0 (by rw [← hw1, ← e1, ← e2, ← e3, ← e4, ← e5, ← e6]; exact hP) hS dX9_applyChange_37
      · have h := ifn h c6
        refine lv_bipush (v := (-2)) hx hb dX9_applyChange_25 (by decide) ?_
        simp only [Option.some.injEq, Prod.mk.injEq] at h
        obtain ⟨e0, e1, e2, e3, e4, e5, e6⟩ := h
        exact kRetI hx hb hr hlk e0 (by rw [← hw1, ← e1, ← e2, ← e3, ← e4, ← e5, ← e6]; exact hP) hS dX9_applyChange_27
