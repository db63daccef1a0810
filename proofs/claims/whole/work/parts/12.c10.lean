/-! generated: X9.setFrozen X9.declaredBy X9.isOverridden X9.dispatched X9.evaluate X9.evaluateAll X9.valueFor X9.dispatch X9.run X9.ticks X9.argumentCount X9.argumentKind X9.temporaryCount X9.ones X9.startChange X9.entryOf X9.keepParameter X9.isTaken X9.insertParameter X9.clashes X9.clash X9.clashingMethod X9.isConcerned X9.kindOf X9.doesCount X9.turnOf -/
set_option maxHeartbeats 8000000 in
set_option maxRecDepth 100000 in
theorem qX9_setFrozen (l : Launch) (D : va_G) (cI cM : ClassId) (a_z a_z_s a_z_past a_z_keeps a_z_entryKey a_z_entryDefault a_z_held a_z_values a_z_kinds a_z_news : Nat) (z_s : Nat → Int32) (z_past : Nat → Int32) (z_pasts : Int32) (z_changed : Int32) (z_entries : Int32) (z_keeps : Nat → Int32) (z_entryKey : Nat → Int32) (z_entryDefault : Nat → Int32) (z_counter : Int32) (z_held : Nat → Int32) (z_values : Nat → Int32) (z_kinds : Nat → Int32) (z_news : Nat → Int32) (x1 : Int32) (x2 : Int32) (r : Int32) (r_z_s : Nat → Int32) (r_z_past : Nat → Int32) (r_z_pasts : Int32) (r_z_changed : Int32) (h : fX9_setFrozen z_s z_past z_pasts z_changed x1 x2 = some (r, r_z_s, r_z_past, r_z_pasts, r_z_changed)) : IM l yX9_setFrozen wsX9_setFrozen rmX9_setFrozen D cI cM [.ref a_z, .int x1, .int x2] (W_z cI cM a_z a_z_s a_z_past a_z_keeps a_z_entryKey a_z_entryDefault a_z_held a_z_values a_z_kinds a_z_news z_s z_past z_pasts z_changed z_entries z_keeps z_entryKey z_entryDefault z_counter z_held z_values z_kinds z_news) (W_z cI cM a_z a_z_s a_z_past a_z_keeps a_z_entryKey a_z_entryDefault a_z_held a_z_values a_z_kinds a_z_news r_z_s r_z_past r_z_pasts r_z_changed z_entries z_keeps z_entryKey z_entryDefault z_counter z_held z_values z_kinds z_news) (some (.int r)) := by
  refine IM.of (cc := cX9_setFrozen) (maxL := 5) (ret := (some .int)) (by decide) rfl (Nat.le_of_ble_eq_true rfl) ?_
  intro p e s m below meth c ls hx hb hr hml hown hts hlk hKK hP hD hS hl
  have hown : s.vm.findClass RX9 = some m.cls := hown
  have hl : lv_has ls 5 [(0, .ref a_z), (1, .int x1), (2, .int x2)] := hl
  generalize hav : ([.ref a_z, .int x1, .int x2] : List Value) = av at hts ⊢
  generalize hw1 : W_z cI cM a_z a_z_s a_z_past a_z_keeps a_z_entryKey a_z_entryDefault a_z_held a_z_values a_z_kinds a_z_news r_z_s r_z_past r_z_pasts r_z_changed z_entries z_keeps z_entryKey z_entryDefault z_counter z_held z_values z_kinds z_news = w1
  generalize hw0 : W_z cI cM a_z a_z_s a_z_past a_z_keeps a_z_entryKey a_z_entryDefault a_z_held a_z_values a_z_kinds a_z_news z_s z_past z_pasts z_changed z_entries z_keeps z_entryKey z_entryDefault z_counter z_held z_values z_kinds z_news = w0 at hD hS ⊢
  have hP : va_P D vwCl (W_z cI cM a_z a_z_s a_z_past a_z_keeps a_z_entryKey a_z_entryDefault a_z_held a_z_values a_z_kinds a_z_news z_s z_past z_pasts z_changed z_entries z_keeps z_entryKey z_entryDefault z_counter z_held z_values z_kinds z_news) s.heap := hP
  have hD : va_D (fun q => q ∈ w0.map (·.1)) (W_z cI cM a_z a_z_s a_z_past a_z_keeps a_z_entryKey a_z_entryDefault a_z_held a_z_values a_z_kinds a_z_news z_s z_past z_pasts z_changed z_entries z_keeps z_entryKey z_entryDefault z_counter z_held z_values z_kinds z_news) := by rw [hw0]; exact hD
  have SS : CallFix p m c cX9_setFrozen 5 s av.toArray wsX9_setFrozen RX9 := ⟨hx, hb, hml, hown, hts⟩
  have hinX9 : ∀ w ∈ u_ws RX9 TX9 13, w ∈ wsX9_setFrozen := by decide +kernel
  have lk7 := hts (.fieldLink RX9 7 "SignatureChangerModel" "s" "[I") (List.mem_of_getElem? (i := 1) rfl)
  have cw44 : CallB rmX9_setFrozen s av.toArray RX9 44 yX9_in cX9_in 3 (some .boolean) wsX9_in rmX9_in 0 0 3 ∧ (Cond.static yX9_in).before av.toArray s = true := va_cwS 3 hts gX9_setFrozen_X9_in rfl rfl rfl (by decide +kernel) ⟨Nat.le_of_ble_eq_true rfl, Nat.le_of_ble_eq_true rfl⟩
  have cw86 : CallW rmX9_setFrozen s av.toArray RX9 RX9 86 yX9_edit cX9_edit 2 none wsX9_edit rmX9_edit 0 0 0 := cwV 0 hts gX9_setFrozen_X9_edit rfl rfl rfl (by decide +kernel) ⟨Nat.le_of_ble_eq_true rfl, Nat.le_of_ble_eq_true rfl⟩
  have cw111 : CallW rmX9_setFrozen s av.toArray RX9 RX9 111 yX9_at cX9_at 3 (some .int) wsX9_at rmX9_at 0 0 2 := cwV 2 hts gX9_setFrozen_X9_at rfl rfl rfl (by decide +kernel) ⟨Nat.le_of_ble_eq_true rfl, Nat.le_of_ble_eq_true rfl⟩
  have cw117 : CallW rmX9_setFrozen s av.toArray RX9 RX9 117 yX9_isCall cX9_isCall 2 (some .boolean) wsX9_isCall rmX9_isCall 0 0 1 := cwV 1 hts gX9_setFrozen_X9_isCall rfl rfl rfl (by decide +kernel) ⟨Nat.le_of_ble_eq_true rfl, Nat.le_of_ble_eq_true rfl⟩
  have cw126 : CallW rmX9_setFrozen s av.toArray RX9 RX9 126 yX9_isUpToDate cX9_isUpToDate 6 (some .boolean) wsX9_isUpToDate rmX9_isUpToDate 0 0 1 := cwV 1 hts gX9_setFrozen_X9_isUpToDate rfl rfl rfl (by decide +kernel) ⟨Nat.le_of_ble_eq_true rfl, Nat.le_of_ble_eq_true rfl⟩
  have F70 : ∀ (n : Nat) (H : Heap) (locs : List Loc) (z_s : Nat → Int32) (z_past : Nat → Int32) (z_pasts : Int32) (z_changed : Int32) (y3 : Int32) (y4 : Int32), lX9_setFrozen_70  n z_s z_past z_pasts z_changed y3 y4 = some (r, r_z_s, r_z_past, r_z_pasts, r_z_changed) → va_P D vwCl (W_z cI cM a_z a_z_s a_z_past a_z_keeps a_z_entryKey a_z_entryDefault a_z_held a_z_values a_z_kinds a_z_news z_s z_past z_pasts z_changed z_entries z_keeps z_entryKey z_entryDefault z_counter z_held z_values z_kinds z_news) H → va_D (fun q => q ∈ (w0).map (·.1)) (W_z cI cM a_z a_z_s a_z_past a_z_keeps a_z_entryKey a_z_entryDefault a_z_held a_z_values a_z_kinds a_z_news z_s z_past z_pasts z_changed z_entries z_keeps z_entryKey z_entryDefault z_counter z_held z_values z_kinds z_news) → va_S (fun q => q ∈ (w0).map (·.1)) s.heap H locs → ∀ ls : Array Slot, lv_has ls 5 [(0, .ref a_z), (3, .int y3), (4, .int y4)] → WI p l e rmX9_setFrozen s m av below meth c D w0 w1 (some (.int r)) H locs 70 ls [] := by
    intro n
    induction n with
    | zero => intro H locs z_s z_past z_pasts z_changed y3 y4 h; exact no_some h
    | succ n ih =>
      intro H locs z_s z_past z_pasts z_changed y3 y4 h hP hD hS ls hl
      rw [lX9_setFrozen_70_s] at h
      refine lv_iload hx hb dX9_setFrozen_70 (lv_at hl 2 rfl) ?_
      refine lv_aload_n hx hb dX9_setFrozen_72 rfl (lv_at hl 0 rfl) ?_
      refine va_get (D := D) (ci := 9) (v := .ref a_z_s) (C := RX9) (T := TX9) (N := 13) hx hb hts hinX9 hown hKK.1 hP 0 rfl rfl 0 (by decide) lk7 (fun _ h9 => h9) rfl dX9_setFrozen_73 ?_
      refine lv_sipush (v := 234) hx hb dX9_setFrozen_76 (by decide) ?_
      obtain ⟨v1, iv1, ev1, h⟩ := rd_some h
      refine kAld hx hb hKK hP 1 rfl iv1 ev1 dX9_setFrozen_79 ?_
      refine lv_icmp_ge (tgt := 104) hx hb dX9_setFrozen_80 (by decide) (fun c2 => ?_) (fun c2 => ?_)
      · have h := ifp h c2
        refine lv_iload_n hx hb dX9_setFrozen_104 rfl (lv_at hl 1 rfl) ?_
        simp only [Option.some.injEq, Prod.mk.injEq] at h
        obtain ⟨e0, e1, e2, e3, e4⟩ := h
        exact kRetI hx hb hr hlk e0 (by rw [← hw1, ← e1, ← e2, ← e3, ← e4]; exact hP) hS dX9_setFrozen_105
      · have h := ifn h c2
        refine lv_iload_n hx hb dX9_setFrozen_83 rfl (lv_at hl 1 rfl) ?_
        refine lv_aload_n hx hb dX9_setFrozen_84 rfl (lv_at hl 0 rfl) ?_
        refine va_get (D := D) (ci := 9) (v := .ref a_z_s) (C := RX9) (T := TX9) (N := 13) hx hb hts hinX9 hown hKK.1 hP 0 rfl rfl 0 (by decide) lk7 (fun _ h9 => h9) rfl dX9_setFrozen_85 ?_
        refine lv_aload_n hx hb dX9_setFrozen_88 rfl (lv_at hl 0 rfl) ?_
        refine lv_iload hx hb dX9_setFrozen_89 (lv_at hl 2 rfl) ?_
        refine lv_iconst (v := 3) hx hb dX9_setFrozen_91 (by decide) ?_
        obtain ⟨v3, ev3, h⟩ := bn_some h
        have hs4 : va_P D vwCl (W_z cI cM a_z a_z_s a_z_past a_z_keeps a_z_entryKey a_z_entryDefault a_z_held a_z_values a_z_kinds a_z_news z_s z_past z_pasts z_changed z_entries z_keeps z_entryKey z_entryDefault z_counter z_held z_values z_kinds z_news) _ := hP.sub (ws' := W_z cI cM a_z a_z_s a_z_past a_z_keeps a_z_entryKey a_z_entryDefault a_z_held a_z_values a_z_kinds a_z_news z_s z_past z_pasts z_changed z_entries z_keeps z_entryKey z_entryDefault z_counter z_held z_values z_kinds z_news) [0, 1, 2, 3, 4, 5, 6, 7, 8, 9] rfl
        refine kV (As := [.int y4, .int 3]) (rest := [.ref a_z_s, .int y3]) SS hKK (qX9_at l D cI cM a_z a_z_s a_z_past a_z_keeps a_z_entryKey a_z_entryDefault a_z_held a_z_values a_z_kinds a_z_news z_s z_past z_pasts z_changed z_entries z_keeps z_entryKey z_entryDefault z_counter z_held z_values z_kinds z_news y4 3 v3 ev3) cw111 hs4 0 9 rfl rfl rfl hl.1 rfl (Nat.le_of_ble_eq_true rfl) dX9_setFrozen_92 ⟨Nat.zero_le _, Nat.zero_le _⟩ ?_
        obtain ⟨v5, iv5, ev5, h⟩ := rd_some h
        refine kAld hx hb hKK hP 1 rfl iv5 ev5 dX9_setFrozen_95 ?_
        refine lv_iadd hx hb dX9_setFrozen_96 ?_
        refine lv_istore_n (lv' := [(3, .int (y3 + v5)), (0, .ref a_z), (4, .int y4)]) hx hb dX9_setFrozen_97 rfl hl (by decide) rfl (fun ls hl => ?_)
        refine lv_iinc (v := y4 + 1) (lv' := [(4, .int (y4 + 1)), (3, .int (y3 + v5)), (0, .ref a_z)]) hx hb dX9_setFrozen_98 hl (k := 2) rfl rfl (by decide) rfl (fun ls hl => ?_)
        refine lv_goto (tgt := 70) hx hb dX9_setFrozen_101 (by decide) ?_
        exact ih H locs z_s z_past z_pasts z_changed (y3 + v5) (y4 + 1) h hP hD hS ls (lv_sub (l' := [(0, .ref a_z), (3, .int (y3 + v5)), (4, .int (y4 + 1))]) hl [2, 1, 0] rfl)
  have F49 : ∀ (H : Heap) (locs : List Loc) (z_s : Nat → Int32) (z_past : Nat → Int32) (z_pasts : Int32) (z_changed : Int32) (y1 : Int32) (y2 : Int32), jX9_setFrozen_49  z_s z_past z_pasts z_changed y1 y2 = some (r, r_z_s, r_z_past, r_z_pasts, r_z_changed) → va_P D vwCl (W_z cI cM a_z a_z_s a_z_past a_z_keeps a_z_entryKey a_z_entryDefault a_z_held a_z_values a_z_kinds a_z_news z_s z_past z_pasts z_changed z_entries z_keeps z_entryKey z_entryDefault z_counter z_held z_values z_kinds z_news) H → va_D (fun q => q ∈ (w0).map (·.1)) (W_z cI cM a_z a_z_s a_z_past a_z_keeps a_z_entryKey a_z_entryDefault a_z_held a_z_values a_z_kinds a_z_news z_s z_past z_pasts z_changed z_entries z_keeps z_entryKey z_entryDefault z_counter z_held z_values z_kinds z_news) → va_S (fun q => q ∈ (w0).map (·.1)) s.heap H locs → ∀ ls : Array Slot, lv_has ls 5 [(0, .ref a_z), (1, .int y1), (2, .int y2)] → WI p l e rmX9_setFrozen s m av below meth c D w0 w1 (some (.int r)) H locs 49 ls [] := by
    intro H locs z_s z_past z_pasts z_changed y1 y2 h hP hD hS ls hl
    unfold jX9_setFrozen_49 at h
    refine lv_aload_n hx hb dX9_setFrozen_49 rfl (lv_at hl 0 rfl) ?_
    obtain ⟨g1, g2, g3, eg1, h⟩ := bn3_some h
    refine kVI (As := []) (rest := []) (st1 := []) SS hKK (qX9_edit l D cI cM a_z a_z_s a_z_past a_z_keeps a_z_entryKey a_z_entryDefault a_z_held a_z_values a_z_kinds a_z_news z_s z_past z_pasts z_changed z_entries z_keeps z_entryKey z_entryDefault z_counter z_held z_values z_kinds z_news g1 g2 g3 eg1) cw86 hP hD hS [0, 1, 2, 3, 4, 5, 6, 7, 8, 9] rfl rfl rfl rfl 0 9 rfl rfl rfl hl.1 rfl (Nat.le_of_ble_eq_true rfl) dX9_setFrozen_50 ⟨Nat.zero_le _, Nat.zero_le _⟩ rfl (fun H locs hP hD hS => ?_)
    have hP : va_P D vwCl (W_z cI cM a_z a_z_s a_z_past a_z_keeps a_z_entryKey a_z_entryDefault a_z_held a_z_values a_z_kinds a_z_news z_s g1 g2 g3 z_entries z_keeps z_entryKey z_entryDefault z_counter z_held z_values z_kinds z_news) H := hP
    have hD : va_D _ (W_z cI cM a_z a_z_s a_z_past a_z_keeps a_z_entryKey a_z_entryDefault a_z_held a_z_values a_z_kinds a_z_news z_s g1 g2 g3 z_entries z_keeps z_entryKey z_entryDefault z_counter z_held z_values z_kinds z_news) := hD
    refine lv_aload_n hx hb dX9_setFrozen_53 rfl (lv_at hl 0 rfl) ?_
    refine va_get (D := D) (ci := 9) (v := .ref a_z_s) (C := RX9) (T := TX9) (N := 13) hx hb hts hinX9 hown hKK.1 hP 0 rfl rfl 0 (by decide) lk7 (fun _ h9 => h9) rfl dX9_setFrozen_54 ?_
    refine lv_aload_n hx hb dX9_setFrozen_57 rfl (lv_at hl 0 rfl) ?_
    refine lv_iload_n hx hb dX9_setFrozen_58 rfl (lv_at hl 1 rfl) ?_
    refine lv_iconst (v := 3) hx hb dX9_setFrozen_59 (by decide) ?_
    obtain ⟨v4, ev4, h⟩ := bn_some h
    have hs5 : va_P D vwCl (W_z cI cM a_z a_z_s a_z_past a_z_keeps a_z_entryKey a_z_entryDefault a_z_held a_z_values a_z_kinds a_z_news z_s g1 g2 g3 z_entries z_keeps z_entryKey z_entryDefault z_counter z_held z_values z_kinds z_news) _ := hP.sub (ws' := W_z cI cM a_z a_z_s a_z_past a_z_keeps a_z_entryKey a_z_entryDefault a_z_held a_z_values a_z_kinds a_z_news z_s g1 g2 g3 z_entries z_keeps z_entryKey z_entryDefault z_counter z_held z_values z_kinds z_news) [0, 1, 2, 3, 4, 5, 6, 7, 8, 9] rfl
    refine kV (As := [.int y1, .int 3]) (rest := [.ref a_z_s]) SS hKK (qX9_at l D cI cM a_z a_z_s a_z_past a_z_keeps a_z_entryKey a_z_entryDefault a_z_held a_z_values a_z_kinds a_z_news z_s g1 g2 g3 z_entries z_keeps z_entryKey z_entryDefault z_counter z_held z_values z_kinds z_news y1 3 v4 ev4) cw111 hs5 0 9 rfl rfl rfl hl.1 rfl (Nat.le_of_ble_eq_true rfl) dX9_setFrozen_60 ⟨Nat.zero_le _, Nat.zero_le _⟩ ?_
    refine lv_iload_n hx hb dX9_setFrozen_63 rfl (lv_at hl 2 rfl) ?_
    obtain ⟨g6, ig6, eg6, h⟩ := wr_some h
    refine kAst hx hb hKK hP hD hS 1 rfl ig6 eg6 dX9_setFrozen_64 (fun H locs hP hD hS => ?_)
    have hP : va_P D vwCl (W_z cI cM a_z a_z_s a_z_past a_z_keeps a_z_entryKey a_z_entryDefault a_z_held a_z_values a_z_kinds a_z_news g6 g1 g2 g3 z_entries z_keeps z_entryKey z_entryDefault z_counter z_held z_values z_kinds z_news) H := hP
    have hD : va_D _ (W_z cI cM a_z a_z_s a_z_past a_z_keeps a_z_entryKey a_z_entryDefault a_z_held a_z_values a_z_kinds a_z_news g6 g1 g2 g3 z_entries z_keeps z_entryKey z_entryDefault z_counter z_held z_values z_kinds z_news) := hD
    refine lv_iconst (v := 0) hx hb dX9_setFrozen_65 (by decide) ?_
    refine lv_istore_n (lv' := [(3, .int 0), (0, .ref a_z), (1, .int y1), (2, .int y2)]) hx hb dX9_setFrozen_66 rfl hl (by decide) rfl (fun ls hl => ?_)
    refine lv_iconst (v := 0) hx hb dX9_setFrozen_67 (by decide) ?_
    refine lv_istore (lv' := [(4, .int 0), (3, .int 0), (0, .ref a_z), (1, .int y1), (2, .int y2)]) hx hb dX9_setFrozen_68 hl (by decide) rfl (fun ls hl => ?_)
    exact F70 5000 H locs g6 g1 g2 g3 0 0 h hP hD hS ls (lv_sub (l' := [(0, .ref a_z), (3, .int 0), (4, .int 0)]) hl [2, 1, 0] rfl)
  unfold fX9_setFrozen at h
  refine lv_aload_n hx hb dX9_setFrozen_0 rfl (lv_at hl 0 rfl) ?_
  refine lv_iload_n hx hb dX9_setFrozen_1 rfl (lv_at hl 1 rfl) ?_
  obtain ⟨v1, ev1, h⟩ := bn_some h
  have hs2 : va_P D vwCl (W_z cI cM a_z a_z_s a_z_past a_z_keeps a_z_entryKey a_z_entryDefault a_z_held a_z_values a_z_kinds a_z_news z_s z_past z_pasts z_changed z_entries z_keeps z_entryKey z_entryDefault z_counter z_held z_values z_kinds z_news) _ := hP.sub (ws' := W_z cI cM a_z a_z_s a_z_past a_z_keeps a_z_entryKey a_z_entryDefault a_z_held a_z_values a_z_kinds a_z_news z_s z_past z_pasts z_changed z_entries z_keeps z_entryKey z_entryDefault z_counter z_held z_values z_kinds z_news) [0, 1, 2, 3, 4, 5, 6, 7, 8, 9] rfl
  refine kV (As := [.int x1]) (rest := []) SS hKK (qX9_isCall l D cI cM a_z a_z_s a_z_past a_z_keeps a_z_entryKey a_z_entryDefault a_z_held a_z_values a_z_kinds a_z_news z_s z_past z_pasts z_changed z_entries z_keeps z_entryKey z_entryDefault z_counter z_held z_values z_kinds z_news x1 v1 ev1) cw117 hs2 0 9 rfl rfl rfl hl.1 rfl (Nat.le_of_ble_eq_true rfl) dX9_setFrozen_2 ⟨Nat.zero_le _, Nat.zero_le _⟩ ?_
  refine lv_if_eq (tgt := 17) hx hb dX9_setFrozen_5 (by decide) (fun c3 => ?_) (fun c3 => ?_)
  · have h := ifp h c3
    refine lv_iconst (v := (-1)) hx hb dX9_setFrozen_17 (by decide) ?_
    simp only [Option.some.injEq, Prod.mk.injEq] at h
    obtain ⟨e0, e1, e2, e3, e4⟩ := h
    exact kRetI hx hb hr hlk e0 (by rw [← hw1, ← e1, ← e2, ← e3, ← e4]; exact hP) hS dX9_setFrozen_18
  · have h := ifn h c3
    refine lv_iload_n hx hb dX9_setFrozen_8 rfl (lv_at hl 2 rfl) ?_
    refine lv_iconst (v := 0) hx hb dX9_setFrozen_9 (by decide) ?_
    refine lv_iconst (v := 1) hx hb dX9_setFrozen_10 (by decide) ?_
    obtain ⟨v4, ev4, h⟩ := bn_some h
    refine kS (As := [.int x2, .int 0, .int 1]) (rest := []) SS hKK (qX9_in l D cI cM x2 0 1 v4 ev4) cw44 va_P_nil rfl hl.1 rfl (Nat.le_of_ble_eq_true rfl) dX9_setFrozen_11 ⟨Nat.zero_le _, Nat.zero_le _⟩ ?_
    refine lv_if_ne (tgt := 19) hx hb dX9_setFrozen_14 (by decide) (fun c5 => ?_) (fun c5 => ?_)
    · have h := ifn h c5
      refine lv_aload_n hx hb dX9_setFrozen_19 rfl (lv_at hl 0 rfl) ?_
      refine va_get (D := D) (ci := 9) (v := .ref a_z_s) (C := RX9) (T := TX9) (N := 13) hx hb hts hinX9 hown hKK.1 hP 0 rfl rfl 0 (by decide) lk7 (fun _ h9 => h9) rfl dX9_setFrozen_20 ?_
      refine lv_aload_n hx hb dX9_setFrozen_23 rfl (lv_at hl 0 rfl) ?_
      refine lv_iload_n hx hb dX9_setFrozen_24 rfl (lv_at hl 1 rfl) ?_
      refine lv_iconst (v := 3) hx hb dX9_setFrozen_25 (by decide) ?_
      obtain ⟨v6, ev6, h⟩ := bn_some h
      refine kV (As := [.int x1, .int 3]) (rest := [.ref a_z_s]) SS hKK (qX9_at l D cI cM a_z a_z_s a_z_past a_z_keeps a_z_entryKey a_z_entryDefault a_z_held a_z_values a_z_kinds a_z_news z_s z_past z_pasts z_changed z_entries z_keeps z_entryKey z_entryDefault z_counter z_held z_values z_kinds z_news x1 3 v6 ev6) cw111 hs2 0 9 rfl rfl rfl hl.1 rfl (Nat.le_of_ble_eq_true rfl) dX9_setFrozen_26 ⟨Nat.zero_le _, Nat.zero_le _⟩ ?_
      obtain ⟨v7, iv7, ev7, h⟩ := rd_some h
      refine kAld hx hb hKK hP 1 rfl iv7 ev7 dX9_setFrozen_29 ?_
      refine lv_iload_n hx hb dX9_setFrozen_30 rfl (lv_at hl 2 rfl) ?_
      refine lv_icmp_eq (tgt := 46) hx hb dX9_setFrozen_31 (by decide) (fun c8 => ?_) (fun c8 => ?_)
      · have h := ifp h c8
        refine lv_bipush (v := (-2)) hx hb dX9_setFrozen_46 (by decide) ?_
        simp only [Option.some.injEq, Prod.mk.injEq] at h
        obtain ⟨e0, e1, e2, e3, e4⟩ := h
        exact kRetI hx hb hr hlk e0 (by rw [← hw1, ← e1, ← e2, ← e3, ← e4]; exact hP) hS dX9_setFrozen_48
      · have h := ifn h c8
        refine lv_iload_n hx hb dX9_setFrozen_34 rfl (lv_at hl 2 rfl) ?_
        refine lv_if_ne (tgt := 49) hx hb dX9_setFrozen_35 (by decide) (fun c9 => ?_) (fun c9 => ?_)
        · have h := ifn h c9
          exact F49 s.heap [] z_s z_past z_pasts z_changed x1 x2 h hP hD hS ls (lv_sub (l' := [(0, .ref a_z), (1, .int x1), (2, .int x2)]) hl [0, 1, 2] rfl)
        · have h := ifp h c9
          refine lv_aload_n hx hb dX9_setFrozen_38 rfl (lv_at hl 0 rfl) ?_
          refine lv_iload_n hx hb dX9_setFrozen_39 rfl (lv_at hl 1 rfl) ?_
          obtain ⟨v10, ev10, h⟩ := bn_some h
          refine kV (As := [.int x1]) (rest := []) SS hKK (qX9_isUpToDate l D cI cM a_z a_z_s a_z_past a_z_keeps a_z_entryKey a_z_entryDefault a_z_held a_z_values a_z_kinds a_z_news z_s z_past z_pasts z_changed z_entries z_keeps z_entryKey z_entryDefault z_counter z_held z_values z_kinds z_news x1 v10 ev10) cw126 hs2 0 9 rfl rfl rfl hl.1 rfl (Nat.le_of_ble_eq_true rfl) dX9_setFrozen_40 ⟨Nat.zero_le _, Nat.zero_le _⟩ ?_
          refine lv_if_ne (tgt := 49) hx hb dX9_setFrozen_43 (by decide) (fun c11 => ?_) (fun c11 => ?_)
          · have h := ifn h c11
            exact F49 s.heap [] z_s z_past z_pasts z_changed x1 x2 h hP hD hS ls (lv_sub (l' := [(0, .ref a_z), (1, .int x1), (2, .int x2)]) hl [0, 1, 2] rfl)
          · have h := ifp h c11
            refine lv_bipush (v := (-2)) hx hb dX9_setFrozen_46 (by decide) ?_
            simp only [Option.some.injEq, Prod.mk.injEq] at h
            obtain ⟨e0, e1, e2, e3, e4⟩ := h
            exact kRetI hx hb hr hlk e0 (by rw [← hw1, ← e1, ← e2, ← e3, ← e4]; exact hP) hS dX9_setFrozen_48
    · have h := ifp h c5
      refine lv_iconst (v := (-1)) hx hb dX9_setFrozen_17 (by decide) ?_
      simp only [Option.some.injEq, Prod.mk.injEq] at h
      obtain ⟨e0, e1, e2, e3, e4⟩ := h
      exact kRetI hx hb hr hlk e0 (by rw [← hw1, ← e1, ← e2, ← e3, ← e4]; exact hP) hS dX9_setFrozen_18
set_option maxHeartbeats 8000000 in
set_option maxRecDepth 100000 in
theorem qX9_declaredBy (l : Launch) (D : va_G) (cI cM : ClassId) (a_z a_z_s a_z_past a_z_keeps a_z_entryKey a_z_entryDefault a_z_held a_z_values a_z_kinds a_z_news : Nat) (z_s : Nat → Int32) (z_past : Nat → Int32) (z_pasts : Int32) (z_changed : Int32) (z_entries : Int32) (z_keeps : Nat → Int32) (z_entryKey : Nat → Int32) (z_entryDefault : Nat → Int32) (z_counter : Int32) (z_held : Nat → Int32) (z_values : Nat → Int32) (z_kinds : Nat → Int32) (z_news : Nat → Int32) (x1 : Int32) (x2 : Int32) (r : Int32) (h : fX9_declaredBy z_s x1 x2 = some r) : PM l yX9_declaredBy wsX9_declaredBy rmX9_declaredBy D cI cM [.ref a_z, .int x1, .int x2] (W_z cI cM a_z a_z_s a_z_past a_z_keeps a_z_entryKey a_z_entryDefault a_z_held a_z_values a_z_kinds a_z_news z_s z_past z_pasts z_changed z_entries z_keeps z_entryKey z_entryDefault z_counter z_held z_values z_kinds z_news) r := by
  refine PM.of (cc := cX9_declaredBy) (maxL := 4) (ret := (some .int)) (by decide) rfl (Nat.le_of_ble_eq_true rfl) ?_
  intro p e s m below meth c ls hx hb hr hml hown hts hlk hP hKK hl
  have hown : s.vm.findClass RX9 = some m.cls := hown
  have hl : lv_has ls 4 [(0, .ref a_z), (1, .int x1), (2, .int x2)] := hl
  generalize hav : ([.ref a_z, .int x1, .int x2] : List Value) = av at hts ⊢
  have SS : CallFix p m c cX9_declaredBy 4 s av.toArray wsX9_declaredBy RX9 := ⟨hx, hb, hml, hown, hts⟩
  have hinX9 : ∀ w ∈ u_ws RX9 TX9 13, w ∈ wsX9_declaredBy := by decide +kernel
  have lk7 := hts (.fieldLink RX9 7 "SignatureChangerModel" "s" "[I") (List.mem_of_getElem? (i := 1) rfl)
  have cw63 : CallW rmX9_declaredBy s av.toArray RX9 RX9 63 yX9_of cX9_of 3 (some .int) wsX9_of rmX9_of 0 0 2 := cwV 2 hts gX9_declaredBy_X9_of rfl rfl rfl (by decide +kernel) ⟨Nat.le_of_ble_eq_true rfl, Nat.le_of_ble_eq_true rfl⟩
  have cw70 : CallW rmX9_declaredBy s av.toArray RX9 RX9 70 yX9_areAlikeNamed cX9_areAlikeNamed 3 (some .boolean) wsX9_areAlikeNamed rmX9_areAlikeNamed 0 0 2 := cwV 2 hts gX9_declaredBy_X9_areAlikeNamed rfl rfl rfl (by decide +kernel) ⟨Nat.le_of_ble_eq_true rfl, Nat.le_of_ble_eq_true rfl⟩
  have F2 : ∀ (n : Nat) (y1 : Int32) (y2 : Int32) (y3 : Int32), lX9_declaredBy_2 z_s n y1 y2 y3 = some r → ∀ ls : Array Slot, lv_has ls 4 [(0, .ref a_z), (1, .int y1), (2, .int y2), (3, .int y3)] → WP p l e rmX9_declaredBy s m av below meth c r 2 ls [] := by
    intro n
    induction n with
    | zero => intro y1 y2 y3 h; exact no_some h
    | succ n ih =>
      intro y1 y2 y3 h ls hl
      rw [lX9_declaredBy_2_s] at h
      refine lv_iload_n hx hb dX9_declaredBy_2 rfl (lv_at hl 3 rfl) ?_
      refine lv_aload_n hx hb dX9_declaredBy_3 rfl (lv_at hl 0 rfl) ?_
      refine va_get (D := D) (ci := 9) (v := .ref a_z_s) (C := RX9) (T := TX9) (N := 13) hx hb hts hinX9 hown hKK.1 hP 0 rfl rfl 0 (by decide) lk7 (fun _ h9 => h9) rfl dX9_declaredBy_4 ?_
      refine lv_bipush (v := 25) hx hb dX9_declaredBy_7 (by decide) ?_
      obtain ⟨v1, iv1, ev1, h⟩ := rd_some h
      refine kAld hx hb hKK hP 1 rfl iv1 ev1 dX9_declaredBy_9 ?_
      refine lv_icmp_ge (tgt := 40) hx hb dX9_declaredBy_10 (by decide) (fun c2 => ?_) (fun c2 => ?_)
      · have h := ifp h c2
        refine lv_bipush (v := (-9)) hx hb dX9_declaredBy_40 (by decide) ?_
        exact kRet hx hb hr hlk (Option.some.inj h) dX9_declaredBy_42
      · have h := ifn h c2
        refine lv_aload_n hx hb dX9_declaredBy_13 rfl (lv_at hl 0 rfl) ?_
        refine lv_iload_n hx hb dX9_declaredBy_14 rfl (lv_at hl 3 rfl) ?_
        refine lv_iconst (v := 0) hx hb dX9_declaredBy_15 (by decide) ?_
        obtain ⟨v3, ev3, h⟩ := bn_some h
        have hs4 : va_P D vwCl (W_z cI cM a_z a_z_s a_z_past a_z_keeps a_z_entryKey a_z_entryDefault a_z_held a_z_values a_z_kinds a_z_news z_s z_past z_pasts z_changed z_entries z_keeps z_entryKey z_entryDefault z_counter z_held z_values z_kinds z_news) _ := hP.sub (ws' := W_z cI cM a_z a_z_s a_z_past a_z_keeps a_z_entryKey a_z_entryDefault a_z_held a_z_values a_z_kinds a_z_news z_s z_past z_pasts z_changed z_entries z_keeps z_entryKey z_entryDefault z_counter z_held z_values z_kinds z_news) [0, 1, 2, 3, 4, 5, 6, 7, 8, 9] rfl
        refine kV (As := [.int y3, .int 0]) (rest := []) SS hKK (qX9_of l D cI cM a_z a_z_s a_z_past a_z_keeps a_z_entryKey a_z_entryDefault a_z_held a_z_values a_z_kinds a_z_news z_s z_past z_pasts z_changed z_entries z_keeps z_entryKey z_entryDefault z_counter z_held z_values z_kinds z_news y3 0 v3 ev3) cw63 hs4 0 9 rfl rfl rfl hl.1 rfl (Nat.le_of_ble_eq_true rfl) dX9_declaredBy_16 ⟨Nat.zero_le _, Nat.zero_le _⟩ ?_
        refine lv_iload_n hx hb dX9_declaredBy_19 rfl (lv_at hl 1 rfl) ?_
        refine lv_icmp_ne (tgt := 34) hx hb dX9_declaredBy_20 (by decide) (fun c5 => ?_) (fun c5 => ?_)
        · have h := ifn h c5
          refine lv_iinc (v := y3 + 1) (lv' := [(3, .int (y3 + 1)), (0, .ref a_z), (1, .int y1), (2, .int y2)]) hx hb dX9_declaredBy_34 hl (k := 3) rfl rfl (by decide) rfl (fun ls hl => ?_)
          refine lv_goto (tgt := 2) hx hb dX9_declaredBy_37 (by decide) ?_
          exact ih y1 y2 (y3 + 1) h ls (lv_sub (l' := [(0, .ref a_z), (1, .int y1), (2, .int y2), (3, .int (y3 + 1))]) hl [1, 2, 3, 0] rfl)
        · have h := ifp h c5
          refine lv_aload_n hx hb dX9_declaredBy_23 rfl (lv_at hl 0 rfl) ?_
          refine lv_iload_n hx hb dX9_declaredBy_24 rfl (lv_at hl 3 rfl) ?_
          refine lv_iload_n hx hb dX9_declaredBy_25 rfl (lv_at hl 2 rfl) ?_
          obtain ⟨v6, ev6, h⟩ := bn_some h
          refine kV (As := [.int y3, .int y2]) (rest := []) SS hKK (qX9_areAlikeNamed l D cI cM a_z a_z_s a_z_past a_z_keeps a_z_entryKey a_z_entryDefault a_z_held a_z_values a_z_kinds a_z_news z_s z_past z_pasts z_changed z_entries z_keeps z_entryKey z_entryDefault z_counter z_held z_values z_kinds z_news y3 y2 v6 ev6) cw70 hs4 0 9 rfl rfl rfl hl.1 rfl (Nat.le_of_ble_eq_true rfl) dX9_declaredBy_26 ⟨Nat.zero_le _, Nat.zero_le _⟩ ?_
          refine lv_if_eq (tgt := 34) hx hb dX9_declaredBy_29 (by decide) (fun c7 => ?_) (fun c7 => ?_)
          · have h := ifp h c7
            refine lv_iinc (v := y3 + 1) (lv' := [(3, .int (y3 + 1)), (0, .ref a_z), (1, .int y1), (2, .int y2)]) hx hb dX9_declaredBy_34 hl (k := 3) rfl rfl (by decide) rfl (fun ls hl => ?_)
            refine lv_goto (tgt := 2) hx hb dX9_declaredBy_37 (by decide) ?_
            exact ih y1 y2 (y3 + 1) h ls (lv_sub (l' := [(0, .ref a_z), (1, .int y1), (2, .int y2), (3, .int (y3 + 1))]) hl [1, 2, 3, 0] rfl)
          · have h := ifn h c7
            refine lv_iload_n hx hb dX9_declaredBy_32 rfl (lv_at hl 3 rfl) ?_
            exact kRet hx hb hr hlk (Option.some.inj h) dX9_declaredBy_33
  unfold fX9_declaredBy at h
  refine lv_iconst (v := 0) hx hb dX9_declaredBy_0 (by decide) ?_
  refine lv_istore_n (lv' := [(3, .int 0), (0, .ref a_z), (1, .int x1), (2, .int x2)]) hx hb dX9_declaredBy_1 rfl hl (by decide) rfl (fun ls hl => ?_)
  exact F2 5000 x1 x2 0 h ls (lv_sub (l' := [(0, .ref a_z), (1, .int x1), (2, .int x2), (3, .int 0)]) hl [1, 2, 3, 0] rfl)
set_option maxHeartbeats 8000000 in
set_option maxRecDepth 100000 in
theorem qX9_isOverridden (l : Launch) (D : va_G) (cI cM : ClassId) (a_z a_z_s a_z_past a_z_keeps a_z_entryKey a_z_entryDefault a_z_held a_z_values a_z_kinds a_z_news : Nat) (z_s : Nat → Int32) (z_past : Nat → Int32) (z_pasts : Int32) (z_changed : Int32) (z_entries : Int32) (z_keeps : Nat → Int32) (z_entryKey : Nat → Int32) (z_entryDefault : Nat → Int32) (z_counter : Int32) (z_held : Nat → Int32) (z_values : Nat → Int32) (z_kinds : Nat → Int32) (z_news : Nat → Int32) (x1 : Int32) (x2 : Int32) (x3 : Int32) (r : Int32) (h : fX9_isOverridden z_s x1 x2 x3 = some r) : PM l yX9_isOverridden wsX9_isOverridden rmX9_isOverridden D cI cM [.ref a_z, .int x1, .int x2, .int x3] (W_z cI cM a_z a_z_s a_z_past a_z_keeps a_z_entryKey a_z_entryDefault a_z_held a_z_values a_z_kinds a_z_news z_s z_past z_pasts z_changed z_entries z_keeps z_entryKey z_entryDefault z_counter z_held z_values z_kinds z_news) r := by
  refine PM.of (cc := cX9_isOverridden) (maxL := 7) (ret := (some .boolean)) (by decide) rfl (Nat.le_of_ble_eq_true rfl) ?_
  intro p e s m below meth c ls hx hb hr hml hown hts hlk hP hKK hl
  have hown : s.vm.findClass RX9 = some m.cls := hown
  have hl : lv_has ls 7 [(0, .ref a_z), (1, .int x1), (2, .int x2), (3, .int x3)] := hl
  generalize hav : ([.ref a_z, .int x1, .int x2, .int x3] : List Value) = av at hts ⊢
  have SS : CallFix p m c cX9_isOverridden 7 s av.toArray wsX9_isOverridden RX9 := ⟨hx, hb, hml, hown, hts⟩
  have hinX9 : ∀ w ∈ u_ws RX9 TX9 13, w ∈ wsX9_isOverridden := by decide +kernel
  have lk7 := hts (.fieldLink RX9 7 "SignatureChangerModel" "s" "[I") (List.mem_of_getElem? (i := 1) rfl)
  have cw48 : CallB rmX9_isOverridden s av.toArray RX9 48 yX9_has cX9_has 2 (some .boolean) wsX9_has rmX9_has 0 0 2 ∧ (Cond.static yX9_has).before av.toArray s = true := va_cwS 2 hts gX9_isOverridden_X9_has rfl rfl rfl (by decide +kernel) ⟨Nat.le_of_ble_eq_true rfl, Nat.le_of_ble_eq_true rfl⟩
  have cw56 : CallW rmX9_isOverridden s av.toArray RX9 RX9 56 yX9_supers cX9_supers 2 (some .int) wsX9_supers rmX9_supers 0 0 1 := cwV 1 hts gX9_isOverridden_X9_supers rfl rfl rfl (by decide +kernel) ⟨Nat.le_of_ble_eq_true rfl, Nat.le_of_ble_eq_true rfl⟩
  have cw59 : CallW rmX9_isOverridden s av.toArray RX9 RX9 59 yX9_isInterface cX9_isInterface 2 (some .boolean) wsX9_isInterface rmX9_isInterface 0 0 1 := cwV 1 hts gX9_isOverridden_X9_isInterface rfl rfl rfl (by decide +kernel) ⟨Nat.le_of_ble_eq_true rfl, Nat.le_of_ble_eq_true rfl⟩
  have cw63 : CallW rmX9_isOverridden s av.toArray RX9 RX9 63 yX9_of cX9_of 3 (some .int) wsX9_of rmX9_of 0 0 2 := cwV 2 hts gX9_isOverridden_X9_of rfl rfl rfl (by decide +kernel) ⟨Nat.le_of_ble_eq_true rfl, Nat.le_of_ble_eq_true rfl⟩
  have cw129 : CallW rmX9_isOverridden s av.toArray RX9 RX9 129 yX9_declaredBy cX9_declaredBy 4 (some .int) wsX9_declaredBy rmX9_declaredBy 0 0 2 := cwV 2 hts gX9_isOverridden_X9_declaredBy rfl rfl rfl (by decide +kernel) ⟨Nat.le_of_ble_eq_true rfl, Nat.le_of_ble_eq_true rfl⟩
  have F102 : ∀ (k6 : Int32 → Int32 → Int32 → Int32 → Int32 → Option (Int32)) (hk6 : ∀ (u1 : Int32) (u2 : Int32) (u3 : Int32) (u4 : Int32) (u5 : Int32), k6 u1 u2 u3 u4 u5 = some r → ∀ ls : Array Slot, lv_has ls 7 [(0, .ref a_z), (1, .int u1), (2, .int u2), (3, .int u3), (4, .int u4), (5, .int u5)] → WP p l e rmX9_isOverridden s m av below meth c r 6 ls []), ∀ (y1 : Int32) (y2 : Int32) (y3 : Int32) (y5 : Int32) (s0 : Int32), jX9_isOverridden_102 z_s k6 y1 y2 y3 y5 s0 = some r → ∀ ls : Array Slot, lv_has ls 7 [(0, .ref a_z), (1, .int y1), (2, .int y2), (3, .int y3), (5, .int y5)] → WP p l e rmX9_isOverridden s m av below meth c r 102 ls [.int s0] := by
    intro k6 hk6
    intro y1 y2 y3 y5 s0 h ls hl
    unfold jX9_isOverridden_102 at h
    refine lv_istore (lv' := [(4, .int s0), (0, .ref a_z), (1, .int y1), (2, .int y2), (3, .int y3), (5, .int y5)]) hx hb dX9_isOverridden_102 hl (by decide) rfl (fun ls hl => ?_)
    refine lv_iinc (v := y5 + 1) (lv' := [(5, .int (y5 + 1)), (4, .int s0), (0, .ref a_z), (1, .int y1), (2, .int y2), (3, .int y3)]) hx hb dX9_isOverridden_104 hl (k := 5) rfl rfl (by decide) rfl (fun ls hl => ?_)
    refine lv_goto (tgt := 6) hx hb dX9_isOverridden_107 (by decide) ?_
    exact hk6 y1 y2 y3 s0 (y5 + 1) h ls (lv_sub (l' := [(0, .ref a_z), (1, .int y1), (2, .int y2), (3, .int y3), (4, .int s0), (5, .int (y5 + 1))]) hl [2, 3, 4, 5, 1, 0] rfl)
  have F97 : ∀ (k6 : Int32 → Int32 → Int32 → Int32 → Int32 → Option (Int32)) (hk6 : ∀ (u1 : Int32) (u2 : Int32) (u3 : Int32) (u4 : Int32) (u5 : Int32), k6 u1 u2 u3 u4 u5 = some r → ∀ ls : Array Slot, lv_has ls 7 [(0, .ref a_z), (1, .int u1), (2, .int u2), (3, .int u3), (4, .int u4), (5, .int u5)] → WP p l e rmX9_isOverridden s m av below meth c r 6 ls []), ∀ (y1 : Int32) (y2 : Int32) (y3 : Int32) (y5 : Int32), jX9_isOverridden_97 z_s k6 y1 y2 y3 y5 = some r → ∀ ls : Array Slot, lv_has ls 7 [(0, .ref a_z), (1, .int y1), (2, .int y2), (3, .int y3), (5, .int y5)] → WP p l e rmX9_isOverridden s m av below meth c r 97 ls [] := by
    intro k6 hk6
    intro y1 y2 y3 y5 h ls hl
    unfold jX9_isOverridden_97 at h
    refine lv_iconst (v := 1) hx hb dX9_isOverridden_97 (by decide) ?_
    refine lv_goto (tgt := 102) hx hb dX9_isOverridden_98 (by decide) ?_
    exact F102 k6 hk6 y1 y2 y3 y5 1 h ls (lv_sub (l' := [(0, .ref a_z), (1, .int y1), (2, .int y2), (3, .int y3), (5, .int y5)]) hl [0, 1, 2, 3, 4] rfl)
  have F101 : ∀ (k6 : Int32 → Int32 → Int32 → Int32 → Int32 → Option (Int32)) (hk6 : ∀ (u1 : Int32) (u2 : Int32) (u3 : Int32) (u4 : Int32) (u5 : Int32), k6 u1 u2 u3 u4 u5 = some r → ∀ ls : Array Slot, lv_has ls 7 [(0, .ref a_z), (1, .int u1), (2, .int u2), (3, .int u3), (4, .int u4), (5, .int u5)] → WP p l e rmX9_isOverridden s m av below meth c r 6 ls []), ∀ (y1 : Int32) (y2 : Int32) (y3 : Int32) (y5 : Int32), jX9_isOverridden_101 z_s k6 y1 y2 y3 y5 = some r → ∀ ls : Array Slot, lv_has ls 7 [(0, .ref a_z), (1, .int y1), (2, .int y2), (3, .int y3), (5, .int y5)] → WP p l e rmX9_isOverridden s m av below meth c r 101 ls [] := by
    intro k6 hk6
    intro y1 y2 y3 y5 h ls hl
    unfold jX9_isOverridden_101 at h
    refine lv_iconst (v := 0) hx hb dX9_isOverridden_101 (by decide) ?_
    exact F102 k6 hk6 y1 y2 y3 y5 0 h ls (lv_sub (l' := [(0, .ref a_z), (1, .int y1), (2, .int y2), (3, .int y3), (5, .int y5)]) hl [0, 1, 2, 3, 4] rfl)
  have F67 : ∀ (k6 : Int32 → Int32 → Int32 → Int32 → Int32 → Option (Int32)) (hk6 : ∀ (u1 : Int32) (u2 : Int32) (u3 : Int32) (u4 : Int32) (u5 : Int32), k6 u1 u2 u3 u4 u5 = some r → ∀ ls : Array Slot, lv_has ls 7 [(0, .ref a_z), (1, .int u1), (2, .int u2), (3, .int u3), (4, .int u4), (5, .int u5)] → WP p l e rmX9_isOverridden s m av below meth c r 6 ls []), ∀ (y1 : Int32) (y2 : Int32) (y3 : Int32) (y4 : Int32) (y5 : Int32) (s0 : Int32), jX9_isOverridden_67 z_s k6 y1 y2 y3 y4 y5 s0 = some r → ∀ ls : Array Slot, lv_has ls 7 [(0, .ref a_z), (1, .int y1), (2, .int y2), (3, .int y3), (4, .int y4), (5, .int y5)] → WP p l e rmX9_isOverridden s m av below meth c r 67 ls [.int s0] := by
    intro k6 hk6
    intro y1 y2 y3 y4 y5 s0 h ls hl
    unfold jX9_isOverridden_67 at h
    refine lv_istore (lv' := [(6, .int s0), (0, .ref a_z), (1, .int y1), (2, .int y2), (3, .int y3), (4, .int y4), (5, .int y5)]) hx hb dX9_isOverridden_67 hl (by decide) rfl (fun ls hl => ?_)
    refine lv_iload hx hb dX9_isOverridden_69 (lv_at hl 5 rfl) ?_
    refine lv_if_ne (tgt := 97) hx hb dX9_isOverridden_71 (by decide) (fun c1 => ?_) (fun c1 => ?_)
    · have h := ifn h c1
      exact F97 k6 hk6 y1 y2 y3 y5 h ls (lv_sub (l' := [(0, .ref a_z), (1, .int y1), (2, .int y2), (3, .int y3), (5, .int y5)]) hl [1, 2, 3, 4, 6] rfl)
    · have h := ifp h c1
      refine lv_iload hx hb dX9_isOverridden_74 (lv_at hl 0 rfl) ?_
      refine lv_if_eq (tgt := 101) hx hb dX9_isOverridden_76 (by decide) (fun c2 => ?_) (fun c2 => ?_)
      · have h := ifp h c2
        exact F101 k6 hk6 y1 y2 y3 y5 h ls (lv_sub (l' := [(0, .ref a_z), (1, .int y1), (2, .int y2), (3, .int y3), (5, .int y5)]) hl [1, 2, 3, 4, 6] rfl)
      · have h := ifn h c2
        refine lv_aload_n hx hb dX9_isOverridden_79 rfl (lv_at hl 1 rfl) ?_
        refine lv_iload hx hb dX9_isOverridden_80 (lv_at hl 6 rfl) ?_
        obtain ⟨v3, ev3, h⟩ := bn_some h
        have hs4 : va_P D vwCl (W_z cI cM a_z a_z_s a_z_past a_z_keeps a_z_entryKey a_z_entryDefault a_z_held a_z_values a_z_kinds a_z_news z_s z_past z_pasts z_changed z_entries z_keeps z_entryKey z_entryDefault z_counter z_held z_values z_kinds z_news) _ := hP.sub (ws' := W_z cI cM a_z a_z_s a_z_past a_z_keeps a_z_entryKey a_z_entryDefault a_z_held a_z_values a_z_kinds a_z_news z_s z_past z_pasts z_changed z_entries z_keeps z_entryKey z_entryDefault z_counter z_held z_values z_kinds z_news) [0, 1, 2, 3, 4, 5, 6, 7, 8, 9] rfl
        refine kV (As := [.int y5]) (rest := []) SS hKK (qX9_supers l D cI cM a_z a_z_s a_z_past a_z_keeps a_z_entryKey a_z_entryDefault a_z_held a_z_values a_z_kinds a_z_news z_s z_past z_pasts z_changed z_entries z_keeps z_entryKey z_entryDefault z_counter z_held z_values z_kinds z_news y5 v3 ev3) cw56 hs4 0 9 rfl rfl rfl hl.1 rfl (Nat.le_of_ble_eq_true rfl) dX9_isOverridden_82 ⟨Nat.zero_le _, Nat.zero_le _⟩ ?_
        refine lv_aload_n hx hb dX9_isOverridden_85 rfl (lv_at hl 1 rfl) ?_
        refine lv_iload_n hx hb dX9_isOverridden_86 rfl (lv_at hl 2 rfl) ?_
        refine lv_iconst (v := 0) hx hb dX9_isOverridden_87 (by decide) ?_
        obtain ⟨v5, ev5, h⟩ := bn_some h
        refine kV (As := [.int y1, .int 0]) (rest := [.int v3]) SS hKK (qX9_of l D cI cM a_z a_z_s a_z_past a_z_keeps a_z_entryKey a_z_entryDefault a_z_held a_z_values a_z_kinds a_z_news z_s z_past z_pasts z_changed z_entries z_keeps z_entryKey z_entryDefault z_counter z_held z_values z_kinds z_news y1 0 v5 ev5) cw63 hs4 0 9 rfl rfl rfl hl.1 rfl (Nat.le_of_ble_eq_true rfl) dX9_isOverridden_88 ⟨Nat.zero_le _, Nat.zero_le _⟩ ?_
        obtain ⟨v6, ev6, h⟩ := bn_some h
        refine kS (As := [.int v3, .int v5]) (rest := []) SS hKK (qX9_has l D cI cM v3 v5 v6 ev6) cw48 va_P_nil rfl hl.1 rfl (Nat.le_of_ble_eq_true rfl) dX9_isOverridden_91 ⟨Nat.zero_le _, Nat.zero_le _⟩ ?_
        refine lv_if_eq (tgt := 101) hx hb dX9_isOverridden_94 (by decide) (fun c7 => ?_) (fun c7 => ?_)
        · have h := ifp h c7
          exact F101 k6 hk6 y1 y2 y3 y5 h ls (lv_sub (l' := [(0, .ref a_z), (1, .int y1), (2, .int y2), (3, .int y3), (5, .int y5)]) hl [1, 2, 3, 4, 6] rfl)
        · have h := ifn h c7
          exact F97 k6 hk6 y1 y2 y3 y5 h ls (lv_sub (l' := [(0, .ref a_z), (1, .int y1), (2, .int y2), (3, .int y3), (5, .int y5)]) hl [1, 2, 3, 4, 6] rfl)
  have F66 : ∀ (k6 : Int32 → Int32 → Int32 → Int32 → Int32 → Option (Int32)) (hk6 : ∀ (u1 : Int32) (u2 : Int32) (u3 : Int32) (u4 : Int32) (u5 : Int32), k6 u1 u2 u3 u4 u5 = some r → ∀ ls : Array Slot, lv_has ls 7 [(0, .ref a_z), (1, .int u1), (2, .int u2), (3, .int u3), (4, .int u4), (5, .int u5)] → WP p l e rmX9_isOverridden s m av below meth c r 6 ls []), ∀ (y1 : Int32) (y2 : Int32) (y3 : Int32) (y4 : Int32) (y5 : Int32), jX9_isOverridden_66 z_s k6 y1 y2 y3 y4 y5 = some r → ∀ ls : Array Slot, lv_has ls 7 [(0, .ref a_z), (1, .int y1), (2, .int y2), (3, .int y3), (4, .int y4), (5, .int y5)] → WP p l e rmX9_isOverridden s m av below meth c r 66 ls [] := by
    intro k6 hk6
    intro y1 y2 y3 y4 y5 h ls hl
    unfold jX9_isOverridden_66 at h
    refine lv_iconst (v := 0) hx hb dX9_isOverridden_66 (by decide) ?_
    exact F67 k6 hk6 y1 y2 y3 y4 y5 0 h ls (lv_sub (l' := [(0, .ref a_z), (1, .int y1), (2, .int y2), (3, .int y3), (4, .int y4), (5, .int y5)]) hl [0, 1, 2, 3, 4, 5] rfl)
  have F6 : ∀ (n : Nat) (y1 : Int32) (y2 : Int32) (y3 : Int32) (y4 : Int32) (y5 : Int32), lX9_isOverridden_6 z_s n y1 y2 y3 y4 y5 = some r → ∀ ls : Array Slot, lv_has ls 7 [(0, .ref a_z), (1, .int y1), (2, .int y2), (3, .int y3), (4, .int y4), (5, .int y5)] → WP p l e rmX9_isOverridden s m av below meth c r 6 ls [] := by
    intro n
    induction n with
    | zero => intro y1 y2 y3 y4 y5 h; exact no_some h
    | succ n ih =>
      intro y1 y2 y3 y4 y5 h ls hl
      rw [lX9_isOverridden_6_s] at h
      refine lv_iload hx hb dX9_isOverridden_6 (lv_at hl 5 rfl) ?_
      refine lv_aload_n hx hb dX9_isOverridden_8 rfl (lv_at hl 0 rfl) ?_
      refine va_get (D := D) (ci := 9) (v := .ref a_z_s) (C := RX9) (T := TX9) (N := 13) hx hb hts hinX9 hown hKK.1 hP 0 rfl rfl 0 (by decide) lk7 (fun _ h9 => h9) rfl dX9_isOverridden_9 ?_
      refine lv_iconst (v := 0) hx hb dX9_isOverridden_12 (by decide) ?_
      obtain ⟨v1, iv1, ev1, h⟩ := rd_some h
      refine kAld hx hb hKK hP 1 rfl iv1 ev1 dX9_isOverridden_13 ?_
      refine lv_icmp_ge (tgt := 110) hx hb dX9_isOverridden_14 (by decide) (fun c2 => ?_) (fun c2 => ?_)
      · have h := ifp h c2
        refine lv_iload hx hb dX9_isOverridden_110 (lv_at hl 4 rfl) ?_
        exact kRetZ hx hb hr hlk (rb_some h).2 (rb_some h).1 dX9_isOverridden_112
      · have h := ifn h c2
        refine lv_iload hx hb dX9_isOverridden_17 (lv_at hl 5 rfl) ?_
        refine lv_aload_n hx hb dX9_isOverridden_19 rfl (lv_at hl 0 rfl) ?_
        refine lv_iload_n hx hb dX9_isOverridden_20 rfl (lv_at hl 1 rfl) ?_
        refine lv_iconst (v := 0) hx hb dX9_isOverridden_21 (by decide) ?_
        obtain ⟨v3, ev3, h⟩ := bn_some h
        have hs4 : va_P D vwCl (W_z cI cM a_z a_z_s a_z_past a_z_keeps a_z_entryKey a_z_entryDefault a_z_held a_z_values a_z_kinds a_z_news z_s z_past z_pasts z_changed z_entries z_keeps z_entryKey z_entryDefault z_counter z_held z_values z_kinds z_news) _ := hP.sub (ws' := W_z cI cM a_z a_z_s a_z_past a_z_keeps a_z_entryKey a_z_entryDefault a_z_held a_z_values a_z_kinds a_z_news z_s z_past z_pasts z_changed z_entries z_keeps z_entryKey z_entryDefault z_counter z_held z_values z_kinds z_news) [0, 1, 2, 3, 4, 5, 6, 7, 8, 9] rfl
        refine kV (As := [.int y1, .int 0]) (rest := [.int y5]) SS hKK (qX9_of l D cI cM a_z a_z_s a_z_past a_z_keeps a_z_entryKey a_z_entryDefault a_z_held a_z_values a_z_kinds a_z_news z_s z_past z_pasts z_changed z_entries z_keeps z_entryKey z_entryDefault z_counter z_held z_values z_kinds z_news y1 0 v3 ev3) cw63 hs4 0 9 rfl rfl rfl hl.1 rfl (Nat.le_of_ble_eq_true rfl) dX9_isOverridden_22 ⟨Nat.zero_le _, Nat.zero_le _⟩ ?_
        refine lv_icmp_eq (tgt := 66) hx hb dX9_isOverridden_25 (by decide) (fun c5 => ?_) (fun c5 => ?_)
        · have h := ifp h c5
          exact F66 (fun u1 u2 u3 u4 u5 => lX9_isOverridden_6 z_s n u1 u2 u3 u4 u5) (fun u1 u2 u3 u4 u5 h ls hl => ih u1 u2 u3 u4 u5 h ls hl) y1 y2 y3 y4 y5 h ls (lv_sub (l' := [(0, .ref a_z), (1, .int y1), (2, .int y2), (3, .int y3), (4, .int y4), (5, .int y5)]) hl [0, 1, 2, 3, 4, 5] rfl)
        · have h := ifn h c5
          refine lv_aload_n hx hb dX9_isOverridden_28 rfl (lv_at hl 0 rfl) ?_
          refine lv_iload hx hb dX9_isOverridden_29 (lv_at hl 5 rfl) ?_
          obtain ⟨v6, ev6, h⟩ := bn_some h
          refine kV (As := [.int y5]) (rest := []) SS hKK (qX9_isInterface l D cI cM a_z a_z_s a_z_past a_z_keeps a_z_entryKey a_z_entryDefault a_z_held a_z_values a_z_kinds a_z_news z_s z_past z_pasts z_changed z_entries z_keeps z_entryKey z_entryDefault z_counter z_held z_values z_kinds z_news y5 v6 ev6) cw59 hs4 0 9 rfl rfl rfl hl.1 rfl (Nat.le_of_ble_eq_true rfl) dX9_isOverridden_31 ⟨Nat.zero_le _, Nat.zero_le _⟩ ?_
          refine lv_if_eq (tgt := 66) hx hb dX9_isOverridden_34 (by decide) (fun c7 => ?_) (fun c7 => ?_)
          · have h := ifp h c7
            exact F66 (fun u1 u2 u3 u4 u5 => lX9_isOverridden_6 z_s n u1 u2 u3 u4 u5) (fun u1 u2 u3 u4 u5 h ls hl => ih u1 u2 u3 u4 u5 h ls hl) y1 y2 y3 y4 y5 h ls (lv_sub (l' := [(0, .ref a_z), (1, .int y1), (2, .int y2), (3, .int y3), (4, .int y4), (5, .int y5)]) hl [0, 1, 2, 3, 4, 5] rfl)
          · have h := ifn h c7
            refine lv_aload_n hx hb dX9_isOverridden_37 rfl (lv_at hl 0 rfl) ?_
            refine lv_iload_n hx hb dX9_isOverridden_38 rfl (lv_at hl 2 rfl) ?_
            obtain ⟨v8, ev8, h⟩ := bn_some h
            refine kV (As := [.int y2]) (rest := []) SS hKK (qX9_supers l D cI cM a_z a_z_s a_z_past a_z_keeps a_z_entryKey a_z_entryDefault a_z_held a_z_values a_z_kinds a_z_news z_s z_past z_pasts z_changed z_entries z_keeps z_entryKey z_entryDefault z_counter z_held z_values z_kinds z_news y2 v8 ev8) cw56 hs4 0 9 rfl rfl rfl hl.1 rfl (Nat.le_of_ble_eq_true rfl) dX9_isOverridden_39 ⟨Nat.zero_le _, Nat.zero_le _⟩ ?_
            refine lv_iload hx hb dX9_isOverridden_42 (lv_at hl 5 rfl) ?_
            obtain ⟨v9, ev9, h⟩ := bn_some h
            refine kS (As := [.int v8, .int y5]) (rest := []) SS hKK (qX9_has l D cI cM v8 y5 v9 ev9) cw48 va_P_nil rfl hl.1 rfl (Nat.le_of_ble_eq_true rfl) dX9_isOverridden_44 ⟨Nat.zero_le _, Nat.zero_le _⟩ ?_
            refine lv_if_eq (tgt := 66) hx hb dX9_isOverridden_47 (by decide) (fun c10 => ?_) (fun c10 => ?_)
            · have h := ifp h c10
              exact F66 (fun u1 u2 u3 u4 u5 => lX9_isOverridden_6 z_s n u1 u2 u3 u4 u5) (fun u1 u2 u3 u4 u5 h ls hl => ih u1 u2 u3 u4 u5 h ls hl) y1 y2 y3 y4 y5 h ls (lv_sub (l' := [(0, .ref a_z), (1, .int y1), (2, .int y2), (3, .int y3), (4, .int y4), (5, .int y5)]) hl [0, 1, 2, 3, 4, 5] rfl)
            · have h := ifn h c10
              refine lv_aload_n hx hb dX9_isOverridden_50 rfl (lv_at hl 0 rfl) ?_
              refine lv_iload hx hb dX9_isOverridden_51 (lv_at hl 5 rfl) ?_
              refine lv_iload_n hx hb dX9_isOverridden_53 rfl (lv_at hl 3 rfl) ?_
              obtain ⟨v11, ev11, h⟩ := bn_some h
              refine kV (As := [.int y5, .int y3]) (rest := []) SS hKK (qX9_declaredBy l D cI cM a_z a_z_s a_z_past a_z_keeps a_z_entryKey a_z_entryDefault a_z_held a_z_values a_z_kinds a_z_news z_s z_past z_pasts z_changed z_entries z_keeps z_entryKey z_entryDefault z_counter z_held z_values z_kinds z_news y5 y3 v11 ev11) cw129 hs4 0 9 rfl rfl rfl hl.1 rfl (Nat.le_of_ble_eq_true rfl) dX9_isOverridden_54 ⟨Nat.zero_le _, Nat.zero_le _⟩ ?_
              refine lv_bipush (v := (-9)) hx hb dX9_isOverridden_57 (by decide) ?_
              refine lv_icmp_eq (tgt := 66) hx hb dX9_isOverridden_59 (by decide) (fun c12 => ?_) (fun c12 => ?_)
              · have h := ifp h c12
                exact F66 (fun u1 u2 u3 u4 u5 => lX9_isOverridden_6 z_s n u1 u2 u3 u4 u5) (fun u1 u2 u3 u4 u5 h ls hl => ih u1 u2 u3 u4 u5 h ls hl) y1 y2 y3 y4 y5 h ls (lv_sub (l' := [(0, .ref a_z), (1, .int y1), (2, .int y2), (3, .int y3), (4, .int y4), (5, .int y5)]) hl [0, 1, 2, 3, 4, 5] rfl)
              · have h := ifn h c12
                refine lv_iconst (v := 1) hx hb dX9_isOverridden_62 (by decide) ?_
                refine lv_goto (tgt := 67) hx hb dX9_isOverridden_63 (by decide) ?_
                exact F67 (fun u1 u2 u3 u4 u5 => lX9_isOverridden_6 z_s n u1 u2 u3 u4 u5) (fun u1 u2 u3 u4 u5 h ls hl => ih u1 u2 u3 u4 u5 h ls hl) y1 y2 y3 y4 y5 1 h ls (lv_sub (l' := [(0, .ref a_z), (1, .int y1), (2, .int y2), (3, .int y3), (4, .int y4), (5, .int y5)]) hl [0, 1, 2, 3, 4, 5] rfl)
  unfold fX9_isOverridden at h
  refine lv_iconst (v := 0) hx hb dX9_isOverridden_0 (by decide) ?_
  refine lv_istore (lv' := [(4, .int 0), (0, .ref a_z), (1, .int x1), (2, .int x2), (3, .int x3)]) hx hb dX9_isOverridden_1 hl (by decide) rfl (fun ls hl => ?_)
  refine lv_iconst (v := 0) hx hb dX9_isOverridden_3 (by decide) ?_
  refine lv_istore (lv' := [(5, .int 0), (4, .int 0), (0, .ref a_z), (1, .int x1), (2, .int x2), (3, .int x3)]) hx hb dX9_isOverridden_4 hl (by decide) rfl (fun ls hl => ?_)
  exact F6 5000 x1 x2 x3 0 0 h ls (lv_sub (l' := [(0, .ref a_z), (1, .int x1), (2, .int x2), (3, .int x3), (4, .int 0), (5, .int 0)]) hl [2, 3, 4, 5, 1, 0] rfl)
set_option maxHeartbeats 8000000 in
set_option maxRecDepth 100000 in
theorem qX9_dispatched (l : Launch) (D : va_G) (cI cM : ClassId) (a_z a_z_s a_z_past a_z_keeps a_z_entryKey a_z_entryDefault a_z_held a_z_values a_z_kinds a_z_news : Nat) (z_s : Nat → Int32) (z_past : Nat → Int32) (z_pasts : Int32) (z_changed : Int32) (z_entries : Int32) (z_keeps : Nat → Int32) (z_entryKey : Nat → Int32) (z_entryDefault : Nat → Int32) (z_counter : Int32) (z_held : Nat → Int32) (z_values : Nat → Int32) (z_kinds : Nat → Int32) (z_news : Nat → Int32) (x1 : Int32) (r : Int32) (h : fX9_dispatched z_s x1 = some r) : PM l yX9_dispatched wsX9_dispatched rmX9_dispatched D cI cM [.ref a_z, .int x1] (W_z cI cM a_z a_z_s a_z_past a_z_keeps a_z_entryKey a_z_entryDefault a_z_held a_z_values a_z_kinds a_z_news z_s z_past z_pasts z_changed z_entries z_keeps z_entryKey z_entryDefault z_counter z_held z_values z_kinds z_news) r := by
  refine PM.of (cc := cX9_dispatched) (maxL := 6) (ret := (some .int)) (by decide) rfl (Nat.le_of_ble_eq_true rfl) ?_
  intro p e s m below meth c ls hx hb hr hml hown hts hlk hP hKK hl
  have hown : s.vm.findClass RX9 = some m.cls := hown
  have hl : lv_has ls 6 [(0, .ref a_z), (1, .int x1)] := hl
  generalize hav : ([.ref a_z, .int x1] : List Value) = av at hts ⊢
  have SS : CallFix p m c cX9_dispatched 6 s av.toArray wsX9_dispatched RX9 := ⟨hx, hb, hml, hown, hts⟩
  have hinX9 : ∀ w ∈ u_ws RX9 TX9 13, w ∈ wsX9_dispatched := by decide +kernel
  have lk7 := hts (.fieldLink RX9 7 "SignatureChangerModel" "s" "[I") (List.mem_of_getElem? (i := 1) rfl)
  have cw48 : CallB rmX9_dispatched s av.toArray RX9 48 yX9_has cX9_has 2 (some .boolean) wsX9_has rmX9_has 0 0 2 ∧ (Cond.static yX9_has).before av.toArray s = true := va_cwS 2 hts gX9_dispatched_X9_has rfl rfl rfl (by decide +kernel) ⟨Nat.le_of_ble_eq_true rfl, Nat.le_of_ble_eq_true rfl⟩
  have cw56 : CallW rmX9_dispatched s av.toArray RX9 RX9 56 yX9_supers cX9_supers 2 (some .int) wsX9_supers rmX9_supers 0 0 1 := cwV 1 hts gX9_dispatched_X9_supers rfl rfl rfl (by decide +kernel) ⟨Nat.le_of_ble_eq_true rfl, Nat.le_of_ble_eq_true rfl⟩
  have cw59 : CallW rmX9_dispatched s av.toArray RX9 RX9 59 yX9_isInterface cX9_isInterface 2 (some .boolean) wsX9_isInterface rmX9_isInterface 0 0 1 := cwV 1 hts gX9_dispatched_X9_isInterface rfl rfl rfl (by decide +kernel) ⟨Nat.le_of_ble_eq_true rfl, Nat.le_of_ble_eq_true rfl⟩
  have cw111 : CallW rmX9_dispatched s av.toArray RX9 RX9 111 yX9_at cX9_at 3 (some .int) wsX9_at rmX9_at 0 0 2 := cwV 2 hts gX9_dispatched_X9_at rfl rfl rfl (by decide +kernel) ⟨Nat.le_of_ble_eq_true rfl, Nat.le_of_ble_eq_true rfl⟩
  have cw129 : CallW rmX9_dispatched s av.toArray RX9 RX9 129 yX9_declaredBy cX9_declaredBy 4 (some .int) wsX9_declaredBy rmX9_declaredBy 0 0 2 := cwV 2 hts gX9_dispatched_X9_declaredBy rfl rfl rfl (by decide +kernel) ⟨Nat.le_of_ble_eq_true rfl, Nat.le_of_ble_eq_true rfl⟩
  have cw132 : CallW rmX9_dispatched s av.toArray RX9 RX9 132 yX9_isOverridden cX9_isOverridden 7 (some .boolean) wsX9_isOverridden rmX9_isOverridden 0 0 3 := cwV 3 hts gX9_dispatched_X9_isOverridden rfl rfl rfl (by decide +kernel) ⟨Nat.le_of_ble_eq_true rfl, Nat.le_of_ble_eq_true rfl⟩
  have F117 : ∀ (k72 : Int32 → Int32 → Int32 → Option (Int32)) (hk72 : ∀ (u2 : Int32) (u3 : Int32) (u4 : Int32), k72 u2 u3 u4 = some r → ∀ ls : Array Slot, lv_has ls 6 [(0, .ref a_z), (2, .int u2), (3, .int u3), (4, .int u4)] → WP p l e rmX9_dispatched s m av below meth c r 72 ls []), ∀ (y2 : Int32) (y3 : Int32) (y4 : Int32) (s0 : Int32), jX9_dispatched_117 z_s k72 y2 y3 y4 s0 = some r → ∀ ls : Array Slot, lv_has ls 6 [(0, .ref a_z), (2, .int y2), (3, .int y3), (4, .int y4)] → WP p l e rmX9_dispatched s m av below meth c r 117 ls [.int s0] := by
    intro k72 hk72
    intro y2 y3 y4 s0 h ls hl
    unfold jX9_dispatched_117 at h
    refine lv_istore (lv' := [(5, .int s0), (0, .ref a_z), (2, .int y2), (3, .int y3), (4, .int y4)]) hx hb dX9_dispatched_117 hl (by decide) rfl (fun ls hl => ?_)
    refine lv_iload hx hb dX9_dispatched_119 (lv_at hl 0 rfl) ?_
    refine lv_bipush (v := (-9)) hx hb dX9_dispatched_121 (by decide) ?_
    refine lv_icmp_eq (tgt := 140) hx hb dX9_dispatched_123 (by decide) (fun c1 => ?_) (fun c1 => ?_)
    · have h := ifp h c1
      refine lv_iinc (v := y4 + 1) (lv' := [(4, .int (y4 + 1)), (5, .int s0), (0, .ref a_z), (2, .int y2), (3, .int y3)]) hx hb dX9_dispatched_140 hl (k := 4) rfl rfl (by decide) rfl (fun ls hl => ?_)
      refine lv_goto (tgt := 72) hx hb dX9_dispatched_143 (by decide) ?_
      exact hk72 y2 y3 (y4 + 1) h ls (lv_sub (l' := [(0, .ref a_z), (2, .int y2), (3, .int y3), (4, .int (y4 + 1))]) hl [2, 3, 4, 0] rfl)
    · have h := ifn h c1
      refine lv_aload_n hx hb dX9_dispatched_126 rfl (lv_at hl 1 rfl) ?_
      refine lv_iload hx hb dX9_dispatched_127 (lv_at hl 0 rfl) ?_
      refine lv_iload_n hx hb dX9_dispatched_129 rfl (lv_at hl 3 rfl) ?_
      refine lv_iload_n hx hb dX9_dispatched_130 rfl (lv_at hl 2 rfl) ?_
      obtain ⟨v2, ev2, h⟩ := bn_some h
      have hs3 : va_P D vwCl (W_z cI cM a_z a_z_s a_z_past a_z_keeps a_z_entryKey a_z_entryDefault a_z_held a_z_values a_z_kinds a_z_news z_s z_past z_pasts z_changed z_entries z_keeps z_entryKey z_entryDefault z_counter z_held z_values z_kinds z_news) _ := hP.sub (ws' := W_z cI cM a_z a_z_s a_z_past a_z_keeps a_z_entryKey a_z_entryDefault a_z_held a_z_values a_z_kinds a_z_news z_s z_past z_pasts z_changed z_entries z_keeps z_entryKey z_entryDefault z_counter z_held z_values z_kinds z_news) [0, 1, 2, 3, 4, 5, 6, 7, 8, 9] rfl
      refine kV (As := [.int s0, .int y3, .int y2]) (rest := []) SS hKK (qX9_isOverridden l D cI cM a_z a_z_s a_z_past a_z_keeps a_z_entryKey a_z_entryDefault a_z_held a_z_values a_z_kinds a_z_news z_s z_past z_pasts z_changed z_entries z_keeps z_entryKey z_entryDefault z_counter z_held z_values z_kinds z_news s0 y3 y2 v2 ev2) cw132 hs3 0 9 rfl rfl rfl hl.1 rfl (Nat.le_of_ble_eq_true rfl) dX9_dispatched_131 ⟨Nat.zero_le _, Nat.zero_le _⟩ ?_
      refine lv_if_ne (tgt := 140) hx hb dX9_dispatched_134 (by decide) (fun c4 => ?_) (fun c4 => ?_)
      · have h := ifn h c4
        refine lv_iinc (v := y4 + 1) (lv' := [(4, .int (y4 + 1)), (5, .int s0), (0, .ref a_z), (2, .int y2), (3, .int y3)]) hx hb dX9_dispatched_140 hl (k := 4) rfl rfl (by decide) rfl (fun ls hl => ?_)
        refine lv_goto (tgt := 72) hx hb dX9_dispatched_143 (by decide) ?_
        exact hk72 y2 y3 (y4 + 1) h ls (lv_sub (l' := [(0, .ref a_z), (2, .int y2), (3, .int y3), (4, .int (y4 + 1))]) hl [2, 3, 4, 0] rfl)
      · have h := ifp h c4
        refine lv_iload hx hb dX9_dispatched_137 (lv_at hl 0 rfl) ?_
        exact kRet hx hb hr hlk (Option.some.inj h) dX9_dispatched_139
  have F115 : ∀ (k72 : Int32 → Int32 → Int32 → Option (Int32)) (hk72 : ∀ (u2 : Int32) (u3 : Int32) (u4 : Int32), k72 u2 u3 u4 = some r → ∀ ls : Array Slot, lv_has ls 6 [(0, .ref a_z), (2, .int u2), (3, .int u3), (4, .int u4)] → WP p l e rmX9_dispatched s m av below meth c r 72 ls []), ∀ (y2 : Int32) (y3 : Int32) (y4 : Int32), jX9_dispatched_115 z_s k72 y2 y3 y4 = some r → ∀ ls : Array Slot, lv_has ls 6 [(0, .ref a_z), (2, .int y2), (3, .int y3), (4, .int y4)] → WP p l e rmX9_dispatched s m av below meth c r 115 ls [] := by
    intro k72 hk72
    intro y2 y3 y4 h ls hl
    unfold jX9_dispatched_115 at h
    refine lv_bipush (v := (-9)) hx hb dX9_dispatched_115 (by decide) ?_
    exact F117 k72 hk72 y2 y3 y4 (-9) h ls (lv_sub (l' := [(0, .ref a_z), (2, .int y2), (3, .int y3), (4, .int y4)]) hl [0, 1, 2, 3] rfl)
  have F72 : ∀ (n : Nat) (y2 : Int32) (y3 : Int32) (y4 : Int32), lX9_dispatched_72 z_s n y2 y3 y4 = some r → ∀ ls : Array Slot, lv_has ls 6 [(0, .ref a_z), (2, .int y2), (3, .int y3), (4, .int y4)] → WP p l e rmX9_dispatched s m av below meth c r 72 ls [] := by
    intro n
    induction n with
    | zero => intro y2 y3 y4 h; exact no_some h
    | succ n ih =>
      intro y2 y3 y4 h ls hl
      rw [lX9_dispatched_72_s] at h
      refine lv_iload hx hb dX9_dispatched_72 (lv_at hl 3 rfl) ?_
      refine lv_aload_n hx hb dX9_dispatched_74 rfl (lv_at hl 0 rfl) ?_
      refine va_get (D := D) (ci := 9) (v := .ref a_z_s) (C := RX9) (T := TX9) (N := 13) hx hb hts hinX9 hown hKK.1 hP 0 rfl rfl 0 (by decide) lk7 (fun _ h9 => h9) rfl dX9_dispatched_75 ?_
      refine lv_iconst (v := 0) hx hb dX9_dispatched_78 (by decide) ?_
      obtain ⟨v1, iv1, ev1, h⟩ := rd_some h
      refine kAld hx hb hKK hP 1 rfl iv1 ev1 dX9_dispatched_79 ?_
      refine lv_icmp_ge (tgt := 146) hx hb dX9_dispatched_80 (by decide) (fun c2 => ?_) (fun c2 => ?_)
      · have h := ifp h c2
        refine lv_bipush (v := (-9)) hx hb dX9_dispatched_146 (by decide) ?_
        exact kRet hx hb hr hlk (Option.some.inj h) dX9_dispatched_148
      · have h := ifn h c2
        refine lv_aload_n hx hb dX9_dispatched_83 rfl (lv_at hl 0 rfl) ?_
        refine lv_iload hx hb dX9_dispatched_84 (lv_at hl 3 rfl) ?_
        obtain ⟨v3, ev3, h⟩ := bn_some h
        have hs4 : va_P D vwCl (W_z cI cM a_z a_z_s a_z_past a_z_keeps a_z_entryKey a_z_entryDefault a_z_held a_z_values a_z_kinds a_z_news z_s z_past z_pasts z_changed z_entries z_keeps z_entryKey z_entryDefault z_counter z_held z_values z_kinds z_news) _ := hP.sub (ws' := W_z cI cM a_z a_z_s a_z_past a_z_keeps a_z_entryKey a_z_entryDefault a_z_held a_z_values a_z_kinds a_z_news z_s z_past z_pasts z_changed z_entries z_keeps z_entryKey z_entryDefault z_counter z_held z_values z_kinds z_news) [0, 1, 2, 3, 4, 5, 6, 7, 8, 9] rfl
        refine kV (As := [.int y4]) (rest := []) SS hKK (qX9_isInterface l D cI cM a_z a_z_s a_z_past a_z_keeps a_z_entryKey a_z_entryDefault a_z_held a_z_values a_z_kinds a_z_news z_s z_past z_pasts z_changed z_entries z_keeps z_entryKey z_entryDefault z_counter z_held z_values z_kinds z_news y4 v3 ev3) cw59 hs4 0 9 rfl rfl rfl hl.1 rfl (Nat.le_of_ble_eq_true rfl) dX9_dispatched_86 ⟨Nat.zero_le _, Nat.zero_le _⟩ ?_
        refine lv_if_eq (tgt := 115) hx hb dX9_dispatched_89 (by decide) (fun c5 => ?_) (fun c5 => ?_)
        · have h := ifp h c5
          exact F115 (fun u2 u3 u4 => lX9_dispatched_72 z_s n u2 u3 u4) (fun u2 u3 u4 h ls hl => ih u2 u3 u4 h ls hl) y2 y3 y4 h ls (lv_sub (l' := [(0, .ref a_z), (2, .int y2), (3, .int y3), (4, .int y4)]) hl [0, 1, 2, 3] rfl)
        · have h := ifn h c5
          refine lv_aload_n hx hb dX9_dispatched_92 rfl (lv_at hl 0 rfl) ?_
          refine lv_iload_n hx hb dX9_dispatched_93 rfl (lv_at hl 2 rfl) ?_
          obtain ⟨v6, ev6, h⟩ := bn_some h
          refine kV (As := [.int y3]) (rest := []) SS hKK (qX9_supers l D cI cM a_z a_z_s a_z_past a_z_keeps a_z_entryKey a_z_entryDefault a_z_held a_z_values a_z_kinds a_z_news z_s z_past z_pasts z_changed z_entries z_keeps z_entryKey z_entryDefault z_counter z_held z_values z_kinds z_news y3 v6 ev6) cw56 hs4 0 9 rfl rfl rfl hl.1 rfl (Nat.le_of_ble_eq_true rfl) dX9_dispatched_94 ⟨Nat.zero_le _, Nat.zero_le _⟩ ?_
          refine lv_iload hx hb dX9_dispatched_97 (lv_at hl 3 rfl) ?_
          obtain ⟨v7, ev7, h⟩ := bn_some h
          refine kS (As := [.int v6, .int y4]) (rest := []) SS hKK (qX9_has l D cI cM v6 y4 v7 ev7) cw48 va_P_nil rfl hl.1 rfl (Nat.le_of_ble_eq_true rfl) dX9_dispatched_99 ⟨Nat.zero_le _, Nat.zero_le _⟩ ?_
          refine lv_if_eq (tgt := 115) hx hb dX9_dispatched_102 (by decide) (fun c8 => ?_) (fun c8 => ?_)
          · have h := ifp h c8
            exact F115 (fun u2 u3 u4 => lX9_dispatched_72 z_s n u2 u3 u4) (fun u2 u3 u4 h ls hl => ih u2 u3 u4 h ls hl) y2 y3 y4 h ls (lv_sub (l' := [(0, .ref a_z), (2, .int y2), (3, .int y3), (4, .int y4)]) hl [0, 1, 2, 3] rfl)
          · have h := ifn h c8
            refine lv_aload_n hx hb dX9_dispatched_105 rfl (lv_at hl 0 rfl) ?_
            refine lv_iload hx hb dX9_dispatched_106 (lv_at hl 3 rfl) ?_
            refine lv_iload_n hx hb dX9_dispatched_108 rfl (lv_at hl 1 rfl) ?_
            obtain ⟨v9, ev9, h⟩ := bn_some h
            refine kV (As := [.int y4, .int y2]) (rest := []) SS hKK (qX9_declaredBy l D cI cM a_z a_z_s a_z_past a_z_keeps a_z_entryKey a_z_entryDefault a_z_held a_z_values a_z_kinds a_z_news z_s z_past z_pasts z_changed z_entries z_keeps z_entryKey z_entryDefault z_counter z_held z_values z_kinds z_news y4 y2 v9 ev9) cw129 hs4 0 9 rfl rfl rfl hl.1 rfl (Nat.le_of_ble_eq_true rfl) dX9_dispatched_109 ⟨Nat.zero_le _, Nat.zero_le _⟩ ?_
            refine lv_goto (tgt := 117) hx hb dX9_dispatched_112 (by decide) ?_
            exact F117 (fun u2 u3 u4 => lX9_dispatched_72 z_s n u2 u3 u4) (fun u2 u3 u4 h ls hl => ih u2 u3 u4 h ls hl) y2 y3 y4 v9 h ls (lv_sub (l' := [(0, .ref a_z), (2, .int y2), (3, .int y3), (4, .int y4)]) hl [0, 1, 2, 3] rfl)
  have F27 : ∀ (n : Nat) (y2 : Int32) (y3 : Int32) (y4 : Int32), lX9_dispatched_27 z_s n y2 y3 y4 = some r → ∀ ls : Array Slot, lv_has ls 6 [(0, .ref a_z), (2, .int y2), (3, .int y3), (4, .int y4)] → WP p l e rmX9_dispatched s m av below meth c r 27 ls [] := by
    intro n
    induction n with
    | zero => intro y2 y3 y4 h; exact no_some h
    | succ n ih =>
      intro y2 y3 y4 h ls hl
      rw [lX9_dispatched_27_s] at h
      refine lv_iload hx hb dX9_dispatched_27 (lv_at hl 3 rfl) ?_
      refine lv_if_lt (tgt := 69) hx hb dX9_dispatched_29 (by decide) (fun c1 => ?_) (fun c1 => ?_)
      · have h := ifp h c1
        refine lv_iconst (v := 0) hx hb dX9_dispatched_69 (by decide) ?_
        refine lv_istore (lv' := [(4, .int 0), (0, .ref a_z), (2, .int y2), (3, .int y3)]) hx hb dX9_dispatched_70 hl (by decide) rfl (fun ls hl => ?_)
        exact F72 5000 y2 y3 0 h ls (lv_sub (l' := [(0, .ref a_z), (2, .int y2), (3, .int y3), (4, .int 0)]) hl [1, 2, 3, 0] rfl)
      · have h := ifn h c1
        refine lv_aload_n hx hb dX9_dispatched_32 rfl (lv_at hl 0 rfl) ?_
        refine lv_iload hx hb dX9_dispatched_33 (lv_at hl 3 rfl) ?_
        refine lv_iload_n hx hb dX9_dispatched_35 rfl (lv_at hl 1 rfl) ?_
        obtain ⟨v2, ev2, h⟩ := bn_some h
        have hs3 : va_P D vwCl (W_z cI cM a_z a_z_s a_z_past a_z_keeps a_z_entryKey a_z_entryDefault a_z_held a_z_values a_z_kinds a_z_news z_s z_past z_pasts z_changed z_entries z_keeps z_entryKey z_entryDefault z_counter z_held z_values z_kinds z_news) _ := hP.sub (ws' := W_z cI cM a_z a_z_s a_z_past a_z_keeps a_z_entryKey a_z_entryDefault a_z_held a_z_values a_z_kinds a_z_news z_s z_past z_pasts z_changed z_entries z_keeps z_entryKey z_entryDefault z_counter z_held z_values z_kinds z_news) [0, 1, 2, 3, 4, 5, 6, 7, 8, 9] rfl
        refine kV (As := [.int y4, .int y2]) (rest := []) SS hKK (qX9_declaredBy l D cI cM a_z a_z_s a_z_past a_z_keeps a_z_entryKey a_z_entryDefault a_z_held a_z_values a_z_kinds a_z_news z_s z_past z_pasts z_changed z_entries z_keeps z_entryKey z_entryDefault z_counter z_held z_values z_kinds z_news y4 y2 v2 ev2) cw129 hs3 0 9 rfl rfl rfl hl.1 rfl (Nat.le_of_ble_eq_true rfl) dX9_dispatched_36 ⟨Nat.zero_le _, Nat.zero_le _⟩ ?_
        refine lv_istore (lv' := [(5, .int v2), (0, .ref a_z), (2, .int y2), (3, .int y3), (4, .int y4)]) hx hb dX9_dispatched_39 hl (by decide) rfl (fun ls hl => ?_)
        refine lv_iload hx hb dX9_dispatched_41 (lv_at hl 0 rfl) ?_
        refine lv_bipush (v := (-9)) hx hb dX9_dispatched_43 (by decide) ?_
        refine lv_icmp_eq (tgt := 51) hx hb dX9_dispatched_45 (by decide) (fun c4 => ?_) (fun c4 => ?_)
        · have h := ifp h c4
          refine lv_aload_n hx hb dX9_dispatched_51 rfl (lv_at hl 1 rfl) ?_
          refine va_get (D := D) (ci := 9) (v := .ref a_z_s) (C := RX9) (T := TX9) (N := 13) hx hb hts hinX9 hown hKK.1 hP 0 rfl rfl 0 (by decide) lk7 (fun _ h9 => h9) rfl dX9_dispatched_52 ?_
          refine lv_iconst (v := 1) hx hb dX9_dispatched_55 (by decide) ?_
          refine lv_iconst (v := 3) hx hb dX9_dispatched_56 (by decide) ?_
          refine lv_iload hx hb dX9_dispatched_57 (lv_at hl 4 rfl) ?_
          refine lv_imul hx hb dX9_dispatched_59 ?_
          refine lv_iadd hx hb dX9_dispatched_60 ?_
          refine lv_iconst (v := 1) hx hb dX9_dispatched_61 (by decide) ?_
          refine lv_iadd hx hb dX9_dispatched_62 ?_
          obtain ⟨v5, iv5, ev5, h⟩ := rd_some h
          refine kAld hx hb hKK hP 1 rfl iv5 ev5 dX9_dispatched_63 ?_
          refine lv_istore (lv' := [(4, .int v5), (5, .int v2), (0, .ref a_z), (2, .int y2), (3, .int y3)]) hx hb dX9_dispatched_64 hl (by decide) rfl (fun ls hl => ?_)
          refine lv_goto (tgt := 27) hx hb dX9_dispatched_66 (by decide) ?_
          exact ih y2 y3 v5 h ls (lv_sub (l' := [(0, .ref a_z), (2, .int y2), (3, .int y3), (4, .int v5)]) hl [2, 3, 4, 0] rfl)
        · have h := ifn h c4
          refine lv_iload hx hb dX9_dispatched_48 (lv_at hl 0 rfl) ?_
          exact kRet hx hb hr hlk (Option.some.inj h) dX9_dispatched_50
  unfold fX9_dispatched at h
  refine lv_aload_n hx hb dX9_dispatched_0 rfl (lv_at hl 0 rfl) ?_
  refine va_get (D := D) (ci := 9) (v := .ref a_z_s) (C := RX9) (T := TX9) (N := 13) hx hb hts hinX9 hown hKK.1 hP 0 rfl rfl 0 (by decide) lk7 (fun _ h9 => h9) rfl dX9_dispatched_1 ?_
  refine lv_aload_n hx hb dX9_dispatched_4 rfl (lv_at hl 0 rfl) ?_
  refine lv_iload_n hx hb dX9_dispatched_5 rfl (lv_at hl 1 rfl) ?_
  refine lv_iconst (v := 2) hx hb dX9_dispatched_6 (by decide) ?_
  obtain ⟨v1, ev1, h⟩ := bn_some h
  have hs2 : va_P D vwCl (W_z cI cM a_z a_z_s a_z_past a_z_keeps a_z_entryKey a_z_entryDefault a_z_held a_z_values a_z_kinds a_z_news z_s z_past z_pasts z_changed z_entries z_keeps z_entryKey z_entryDefault z_counter z_held z_values z_kinds z_news) _ := hP.sub (ws' := W_z cI cM a_z a_z_s a_z_past a_z_keeps a_z_entryKey a_z_entryDefault a_z_held a_z_values a_z_kinds a_z_news z_s z_past z_pasts z_changed z_entries z_keeps z_entryKey z_entryDefault z_counter z_held z_values z_kinds z_news) [0, 1, 2, 3, 4, 5, 6, 7, 8, 9] rfl
  refine kV (As := [.int x1, .int 2]) (rest := [.ref a_z_s]) SS hKK (qX9_at l D cI cM a_z a_z_s a_z_past a_z_keeps a_z_entryKey a_z_entryDefault a_z_held a_z_values a_z_kinds a_z_news z_s z_past z_pasts z_changed z_entries z_keeps z_entryKey z_entryDefault z_counter z_held z_values z_kinds z_news x1 2 v1 ev1) cw111 hs2 0 9 rfl rfl rfl hl.1 rfl (Nat.le_of_ble_eq_true rfl) dX9_dispatched_7 ⟨Nat.zero_le _, Nat.zero_le _⟩ ?_
  obtain ⟨v3, iv3, ev3, h⟩ := rd_some h
  refine kAld hx hb hKK hP 1 rfl iv3 ev3 dX9_dispatched_10 ?_
  refine lv_istore_n (lv' := [(2, .int v3), (0, .ref a_z), (1, .int x1)]) hx hb dX9_dispatched_11 rfl hl (by decide) rfl (fun ls hl => ?_)
  refine lv_aload_n hx hb dX9_dispatched_12 rfl (lv_at hl 1 rfl) ?_
  refine va_get (D := D) (ci := 9) (v := .ref a_z_s) (C := RX9) (T := TX9) (N := 13) hx hb hts hinX9 hown hKK.1 hP 0 rfl rfl 0 (by decide) lk7 (fun _ h9 => h9) rfl dX9_dispatched_13 ?_
  refine lv_aload_n hx hb dX9_dispatched_16 rfl (lv_at hl 1 rfl) ?_
  refine lv_iload_n hx hb dX9_dispatched_17 rfl (lv_at hl 2 rfl) ?_
  refine lv_iconst (v := 1) hx hb dX9_dispatched_18 (by decide) ?_
  obtain ⟨v4, ev4, h⟩ := bn_some h
  refine kV (As := [.int x1, .int 1]) (rest := [.ref a_z_s]) SS hKK (qX9_at l D cI cM a_z a_z_s a_z_past a_z_keeps a_z_entryKey a_z_entryDefault a_z_held a_z_values a_z_kinds a_z_news z_s z_past z_pasts z_changed z_entries z_keeps z_entryKey z_entryDefault z_counter z_held z_values z_kinds z_news x1 1 v4 ev4) cw111 hs2 0 9 rfl rfl rfl hl.1 rfl (Nat.le_of_ble_eq_true rfl) dX9_dispatched_19 ⟨Nat.zero_le _, Nat.zero_le _⟩ ?_
  obtain ⟨v5, iv5, ev5, h⟩ := rd_some h
  refine kAld hx hb hKK hP 1 rfl iv5 ev5 dX9_dispatched_22 ?_
  refine lv_istore_n (lv' := [(3, .int v5), (2, .int v3), (0, .ref a_z), (1, .int x1)]) hx hb dX9_dispatched_23 rfl hl (by decide) rfl (fun ls hl => ?_)
  refine lv_iload_n hx hb dX9_dispatched_24 rfl (lv_at hl 0 rfl) ?_
  refine lv_istore (lv' := [(4, .int v5), (3, .int v5), (2, .int v3), (0, .ref a_z), (1, .int x1)]) hx hb dX9_dispatched_25 hl (by decide) rfl (fun ls hl => ?_)
  exact F27 5000 v3 v5 v5 h ls (lv_sub (l' := [(0, .ref a_z), (2, .int v3), (3, .int v5), (4, .int v5)]) hl [3, 2, 1, 0] rfl)
set_option maxHeartbeats 8000000 in
set_option maxRecDepth 100000 in
theorem qX9_evaluate (l : Launch) (D : va_G) (cI cM : ClassId) (a_z a_z_s a_z_past a_z_keeps a_z_entryKey a_z_entryDefault a_z_held a_z_values a_z_kinds a_z_news : Nat) (z_s : Nat → Int32) (z_past : Nat → Int32) (z_pasts : Int32) (z_changed : Int32) (z_entries : Int32) (z_keeps : Nat → Int32) (z_entryKey : Nat → Int32) (z_entryDefault : Nat → Int32) (z_counter : Int32) (z_held : Nat → Int32) (z_values : Nat → Int32) (z_kinds : Nat → Int32) (z_news : Nat → Int32) (x1 : Int32) (x2 : Int32) (r : Int32) (r_z_counter : Int32) (h : fX9_evaluate z_counter z_held x1 x2 = some (r, r_z_counter)) : IM l yX9_evaluate wsX9_evaluate rmX9_evaluate D cI cM [.ref a_z, .int x1, .int x2] (W_z cI cM a_z a_z_s a_z_past a_z_keeps a_z_entryKey a_z_entryDefault a_z_held a_z_values a_z_kinds a_z_news z_s z_past z_pasts z_changed z_entries z_keeps z_entryKey z_entryDefault z_counter z_held z_values z_kinds z_news) (W_z cI cM a_z a_z_s a_z_past a_z_keeps a_z_entryKey a_z_entryDefault a_z_held a_z_values a_z_kinds a_z_news z_s z_past z_pasts z_changed z_entries z_keeps z_entryKey z_entryDefault r_z_counter z_held z_values z_kinds z_news) (some (.int r)) := by
  refine IM.of (cc := cX9_evaluate) (maxL := 3) (ret := (some .int)) (by decide) rfl (Nat.le_of_ble_eq_true rfl) ?_
  intro p e s m below meth c ls hx hb hr hml hown hts hlk hKK hP hD hS hl
  have hown : s.vm.findClass RX9 = some m.cls := hown
  have hl : lv_has ls 3 [(0, .ref a_z), (1, .int x1), (2, .int x2)] := hl
  generalize hav : ([.ref a_z, .int x1, .int x2] : List Value) = av at hts ⊢
  generalize hw1 : W_z cI cM a_z a_z_s a_z_past a_z_keeps a_z_entryKey a_z_entryDefault a_z_held a_z_values a_z_kinds a_z_news z_s z_past z_pasts z_changed z_entries z_keeps z_entryKey z_entryDefault r_z_counter z_held z_values z_kinds z_news = w1
  generalize hw0 : W_z cI cM a_z a_z_s a_z_past a_z_keeps a_z_entryKey a_z_entryDefault a_z_held a_z_values a_z_kinds a_z_news z_s z_past z_pasts z_changed z_entries z_keeps z_entryKey z_entryDefault z_counter z_held z_values z_kinds z_news = w0 at hD hS ⊢
  have hP : va_P D vwCl (W_z cI cM a_z a_z_s a_z_past a_z_keeps a_z_entryKey a_z_entryDefault a_z_held a_z_values a_z_kinds a_z_news z_s z_past z_pasts z_changed z_entries z_keeps z_entryKey z_entryDefault z_counter z_held z_values z_kinds z_news) s.heap := hP
  have hD : va_D (fun q => q ∈ w0.map (·.1)) (W_z cI cM a_z a_z_s a_z_past a_z_keeps a_z_entryKey a_z_entryDefault a_z_held a_z_values a_z_kinds a_z_news z_s z_past z_pasts z_changed z_entries z_keeps z_entryKey z_entryDefault z_counter z_held z_values z_kinds z_news) := by rw [hw0]; exact hD
  have SS : CallFix p m c cX9_evaluate 3 s av.toArray wsX9_evaluate RX9 := ⟨hx, hb, hml, hown, hts⟩
  have hinX9 : ∀ w ∈ u_ws RX9 TX9 13, w ∈ wsX9_evaluate := by decide +kernel
  have lk29 := hts (.fieldLink RX9 29 "SignatureChangerModel" "held" "[I") (List.mem_of_getElem? (i := 2) rfl)
  have lk135 := hts (.fieldLink RX9 135 "SignatureChangerModel" "counter" "I") (List.mem_of_getElem? (i := 1) rfl)
  unfold fX9_evaluate at h
  refine lv_iload_n hx hb dX9_evaluate_0 rfl (lv_at hl 1 rfl) ?_
  refine lv_iconst (v := 1) hx hb dX9_evaluate_1 (by decide) ?_
  refine lv_icmp_ne (tgt := 10) hx hb dX9_evaluate_2 (by decide) (fun c1 => ?_) (fun c1 => ?_)
  · have h := ifn h c1
    refine lv_iload_n hx hb dX9_evaluate_10 rfl (lv_at hl 1 rfl) ?_
    refine lv_iconst (v := 2) hx hb dX9_evaluate_11 (by decide) ?_
    refine lv_icmp_ne (tgt := 32) hx hb dX9_evaluate_12 (by decide) (fun c2 => ?_) (fun c2 => ?_)
    · have h := ifn h c2
      refine lv_iload_n hx hb dX9_evaluate_32 rfl (lv_at hl 1 rfl) ?_
      refine lv_iconst (v := 3) hx hb dX9_evaluate_33 (by decide) ?_
      refine lv_icmp_ne (tgt := 46) hx hb dX9_evaluate_34 (by decide) (fun c3 => ?_) (fun c3 => ?_)
      · have h := ifn h c3
        refine lv_iload_n hx hb dX9_evaluate_46 rfl (lv_at hl 2 rfl) ?_
        simp only [Option.some.injEq, Prod.mk.injEq] at h
        obtain ⟨e0, e1⟩ := h
        exact kRetI hx hb hr hlk e0 (by rw [← hw1, ← e1]; exact hP) hS dX9_evaluate_47
      · have h := ifp h c3
        refine lv_aload_n hx hb dX9_evaluate_37 rfl (lv_at hl 0 rfl) ?_
        refine va_get (D := D) (ci := 9) (v := .ref a_z_held) (C := RX9) (T := TX9) (N := 13) hx hb hts hinX9 hown hKK.1 hP 0 rfl rfl 9 (by decide) lk29 (fun _ h9 => h9) rfl dX9_evaluate_38 ?_
        refine lv_iload_n hx hb dX9_evaluate_41 rfl (lv_at hl 2 rfl) ?_
        obtain ⟨v4, iv4, ev4, h⟩ := rd_some h
        refine kAld hx hb hKK hP 6 rfl iv4 ev4 dX9_evaluate_42 ?_
        refine lv_goto (tgt := 47) hx hb dX9_evaluate_43 (by decide) ?_
        simp only [Option.some.injEq, Prod.mk.injEq] at h
        obtain ⟨e0, e1⟩ := h
        exact kRetI hx hb hr hlk e0 (by rw [← hw1, ← e1]; exact hP) hS dX9_evaluate_47
    · have h := ifp h c2
      refine lv_aload_n hx hb dX9_evaluate_15 rfl (lv_at hl 0 rfl) ?_
      refine lv_dup hx hb dX9_evaluate_16 rfl ?_
      refine va_get (D := D) (ci := 9) (v := .int z_counter) (C := RX9) (T := TX9) (N := 13) hx hb hts hinX9 hown hKK.1 hP 0 rfl rfl 8 (by decide) lk135 (fun _ h9 => h9) rfl dX9_evaluate_17 ?_
      refine lv_iconst (v := 1) hx hb dX9_evaluate_20 (by decide) ?_
      refine lv_iadd hx hb dX9_evaluate_21 ?_
      refine va_put (D := D) (ci := 9) (v := .int (z_counter + 1)) (ty := .int) (C := RX9) (T := TX9) (N := 13) hx hb hts hinX9 tyX9 tyX9_ok nmX9 hown hKK.1 hP hD hS 0 rfl rfl 8 (by decide) lk135 (fun _ h9 => h9) rfl (by decide +kernel) rfl rfl (Nat.le_of_ble_eq_true rfl) dX9_evaluate_22 (fun H locs hP hD hS => ?_)
      have hP : va_P D vwCl (W_z cI cM a_z a_z_s a_z_past a_z_keeps a_z_entryKey a_z_entryDefault a_z_held a_z_values a_z_kinds a_z_news z_s z_past z_pasts z_changed z_entries z_keeps z_entryKey z_entryDefault (z_counter + 1) z_held z_values z_kinds z_news) H := hP
      have hD : va_D _ (W_z cI cM a_z a_z_s a_z_past a_z_keeps a_z_entryKey a_z_entryDefault a_z_held a_z_values a_z_kinds a_z_news z_s z_past z_pasts z_changed z_entries z_keeps z_entryKey z_entryDefault (z_counter + 1) z_held z_values z_kinds z_news) := hD
      refine lv_aload_n hx hb dX9_evaluate_25 rfl (lv_at hl 0 rfl) ?_
      refine va_get (D := D) (ci := 9) (v := .int (z_counter + 1)) (C := RX9) (T := TX9) (N := 13) hx hb hts hinX9 hown hKK.1 hP 0 rfl rfl 8 (by decide) lk135 (fun _ h9 => h9) rfl dX9_evaluate_26 ?_
      refine lv_iconst (v := 1) hx hb dX9_evaluate_29 (by decide) ?_
      refine lv_isub hx hb dX9_evaluate_30 ?_
      simp only [Option.some.injEq, Prod.mk.injEq] at h
      obtain ⟨e0, e1⟩ := h
      exact kRetI hx hb hr hlk e0 (by rw [← hw1, ← e1]; exact hP) hS dX9_evaluate_31
  · have h := ifp h c1
    refine lv_aload_n hx hb dX9_evaluate_5 rfl (lv_at hl 0 rfl) ?_
    refine va_get (D := D) (ci := 9) (v := .int z_counter) (C := RX9) (T := TX9) (N := 13) hx hb hts hinX9 hown hKK.1 hP 0 rfl rfl 8 (by decide) lk135 (fun _ h9 => h9) rfl dX9_evaluate_6 ?_
    simp only [Option.some.injEq, Prod.mk.injEq] at h
    obtain ⟨e0, e1⟩ := h
    exact kRetI hx hb hr hlk e0 (by rw [← hw1, ← e1]; exact hP) hS dX9_evaluate_9
set_option maxHeartbeats 8000000 in
set_option maxRecDepth 100000 in
theorem qX9_evaluateAll (l : Launch) (D : va_G) (cI cM : ClassId) (a_z a_z_s a_z_past a_z_keeps a_z_entryKey a_z_entryDefault a_z_held a_z_values a_z_kinds a_z_news : Nat) (z_s : Nat → Int32) (z_past : Nat → Int32) (z_pasts : Int32) (z_changed : Int32) (z_entries : Int32) (z_keeps : Nat → Int32) (z_entryKey : Nat → Int32) (z_entryDefault : Nat → Int32) (z_counter : Int32) (z_held : Nat → Int32) (z_values : Nat → Int32) (z_kinds : Nat → Int32) (z_news : Nat → Int32) (x1 : Int32) (r_z_counter : Int32) (r_z_held : Nat → Int32) (r_z_values : Nat → Int32) (h : fX9_evaluateAll z_s z_counter z_held z_values x1 = some (r_z_counter, r_z_held, r_z_values)) : IM l yX9_evaluateAll wsX9_evaluateAll rmX9_evaluateAll D cI cM [.ref a_z, .int x1] (W_z cI cM a_z a_z_s a_z_past a_z_keeps a_z_entryKey a_z_entryDefault a_z_held a_z_values a_z_kinds a_z_news z_s z_past z_pasts z_changed z_entries z_keeps z_entryKey z_entryDefault z_counter z_held z_values z_kinds z_news) (W_z cI cM a_z a_z_s a_z_past a_z_keeps a_z_entryKey a_z_entryDefault a_z_held a_z_values a_z_kinds a_z_news z_s z_past z_pasts z_changed z_entries z_keeps z_entryKey z_entryDefault r_z_counter r_z_held r_z_values z_kinds z_news) none := by
  refine IM.of (cc := cX9_evaluateAll) (maxL := 3) (ret := none) (by decide) rfl (Nat.le_of_ble_eq_true rfl) ?_
  intro p e s m below meth c ls hx hb hr hml hown hts hlk hKK hP hD hS hl
  have hown : s.vm.findClass RX9 = some m.cls := hown
  have hl : lv_has ls 3 [(0, .ref a_z), (1, .int x1)] := hl
  generalize hav : ([.ref a_z, .int x1] : List Value) = av at hts ⊢
  generalize hw1 : W_z cI cM a_z a_z_s a_z_past a_z_keeps a_z_entryKey a_z_entryDefault a_z_held a_z_values a_z_kinds a_z_news z_s z_past z_pasts z_changed z_entries z_keeps z_entryKey z_entryDefault r_z_counter r_z_held r_z_values z_kinds z_news = w1
  generalize hw0 : W_z cI cM a_z a_z_s a_z_past a_z_keeps a_z_entryKey a_z_entryDefault a_z_held a_z_values a_z_kinds a_z_news z_s z_past z_pasts z_changed z_entries z_keeps z_entryKey z_entryDefault z_counter z_held z_values z_kinds z_news = w0 at hD hS ⊢
  have hP : va_P D vwCl (W_z cI cM a_z a_z_s a_z_past a_z_keeps a_z_entryKey a_z_entryDefault a_z_held a_z_values a_z_kinds a_z_news z_s z_past z_pasts z_changed z_entries z_keeps z_entryKey z_entryDefault z_counter z_held z_values z_kinds z_news) s.heap := hP
  have hD : va_D (fun q => q ∈ w0.map (·.1)) (W_z cI cM a_z a_z_s a_z_past a_z_keeps a_z_entryKey a_z_entryDefault a_z_held a_z_values a_z_kinds a_z_news z_s z_past z_pasts z_changed z_entries z_keeps z_entryKey z_entryDefault z_counter z_held z_values z_kinds z_news) := by rw [hw0]; exact hD
  have SS : CallFix p m c cX9_evaluateAll 3 s av.toArray wsX9_evaluateAll RX9 := ⟨hx, hb, hml, hown, hts⟩
  have hinX9 : ∀ w ∈ u_ws RX9 TX9 13, w ∈ wsX9_evaluateAll := by decide +kernel
  have lk7 := hts (.fieldLink RX9 7 "SignatureChangerModel" "s" "[I") (List.mem_of_getElem? (i := 2) rfl)
  have lk29 := hts (.fieldLink RX9 29 "SignatureChangerModel" "held" "[I") (List.mem_of_getElem? (i := 3) rfl)
  have lk32 := hts (.fieldLink RX9 32 "SignatureChangerModel" "values" "[I") (List.mem_of_getElem? (i := 4) rfl)
  have lk135 := hts (.fieldLink RX9 135 "SignatureChangerModel" "counter" "I") (List.mem_of_getElem? (i := 1) rfl)
  have cw111 : CallW rmX9_evaluateAll s av.toArray RX9 RX9 111 yX9_at cX9_at 3 (some .int) wsX9_at rmX9_at 0 0 2 := cwV 2 hts gX9_evaluateAll_X9_at rfl rfl rfl (by decide +kernel) ⟨Nat.le_of_ble_eq_true rfl, Nat.le_of_ble_eq_true rfl⟩
  have cw138 : CallW rmX9_evaluateAll s av.toArray RX9 RX9 138 yX9_evaluate cX9_evaluate 3 (some .int) wsX9_evaluate rmX9_evaluate 0 0 2 := cwV 2 hts gX9_evaluateAll_X9_evaluate rfl rfl rfl (by decide +kernel) ⟨Nat.le_of_ble_eq_true rfl, Nat.le_of_ble_eq_true rfl⟩
  have F56 : ∀ (n : Nat) (H : Heap) (locs : List Loc) (z_counter : Int32) (z_held : Nat → Int32) (z_values : Nat → Int32) (y1 : Int32) (y2 : Int32), lX9_evaluateAll_56 z_s n z_counter z_held z_values y1 y2 = some (r_z_counter, r_z_held, r_z_values) → va_P D vwCl (W_z cI cM a_z a_z_s a_z_past a_z_keeps a_z_entryKey a_z_entryDefault a_z_held a_z_values a_z_kinds a_z_news z_s z_past z_pasts z_changed z_entries z_keeps z_entryKey z_entryDefault z_counter z_held z_values z_kinds z_news) H → va_D (fun q => q ∈ (w0).map (·.1)) (W_z cI cM a_z a_z_s a_z_past a_z_keeps a_z_entryKey a_z_entryDefault a_z_held a_z_values a_z_kinds a_z_news z_s z_past z_pasts z_changed z_entries z_keeps z_entryKey z_entryDefault z_counter z_held z_values z_kinds z_news) → va_S (fun q => q ∈ (w0).map (·.1)) s.heap H locs → ∀ ls : Array Slot, lv_has ls 3 [(0, .ref a_z), (1, .int y1), (2, .int y2)] → WI p l e rmX9_evaluateAll s m av below meth c D w0 w1 none H locs 56 ls [] := by
    intro n
    induction n with
    | zero => intro H locs z_counter z_held z_values y1 y2 h; exact no_some h
    | succ n ih =>
      intro H locs z_counter z_held z_values y1 y2 h hP hD hS ls hl
      rw [lX9_evaluateAll_56_s] at h
      refine lv_iload_n hx hb dX9_evaluateAll_56 rfl (lv_at hl 2 rfl) ?_
      refine lv_aload_n hx hb dX9_evaluateAll_57 rfl (lv_at hl 0 rfl) ?_
      refine va_get (D := D) (ci := 9) (v := .ref a_z_s) (C := RX9) (T := TX9) (N := 13) hx hb hts hinX9 hown hKK.1 hP 0 rfl rfl 0 (by decide) lk7 (fun _ h9 => h9) rfl dX9_evaluateAll_58 ?_
      refine lv_aload_n hx hb dX9_evaluateAll_61 rfl (lv_at hl 0 rfl) ?_
      refine lv_iload_n hx hb dX9_evaluateAll_62 rfl (lv_at hl 1 rfl) ?_
      refine lv_iconst (v := 4) hx hb dX9_evaluateAll_63 (by decide) ?_
      obtain ⟨v1, ev1, h⟩ := bn_some h
      have hs2 : va_P D vwCl (W_z cI cM a_z a_z_s a_z_past a_z_keeps a_z_entryKey a_z_entryDefault a_z_held a_z_values a_z_kinds a_z_news z_s z_past z_pasts z_changed z_entries z_keeps z_entryKey z_entryDefault z_counter z_held z_values z_kinds z_news) _ := hP.sub (ws' := W_z cI cM a_z a_z_s a_z_past a_z_keeps a_z_entryKey a_z_entryDefault a_z_held a_z_values a_z_kinds a_z_news z_s z_past z_pasts z_changed z_entries z_keeps z_entryKey z_entryDefault z_counter z_held z_values z_kinds z_news) [0, 1, 2, 3, 4, 5, 6, 7, 8, 9] rfl
      refine kV (As := [.int y1, .int 4]) (rest := [.ref a_z_s, .int y2]) SS hKK (qX9_at l D cI cM a_z a_z_s a_z_past a_z_keeps a_z_entryKey a_z_entryDefault a_z_held a_z_values a_z_kinds a_z_news z_s z_past z_pasts z_changed z_entries z_keeps z_entryKey z_entryDefault z_counter z_held z_values z_kinds z_news y1 4 v1 ev1) cw111 hs2 0 9 rfl rfl rfl hl.1 rfl (Nat.le_of_ble_eq_true rfl) dX9_evaluateAll_64 ⟨Nat.zero_le _, Nat.zero_le _⟩ ?_
      obtain ⟨v3, iv3, ev3, h⟩ := rd_some h
      refine kAld hx hb hKK hP 1 rfl iv3 ev3 dX9_evaluateAll_67 ?_
      refine lv_icmp_ge (tgt := 114) hx hb dX9_evaluateAll_68 (by decide) (fun c4 => ?_) (fun c4 => ?_)
      · have h := ifp h c4
        simp only [Option.some.injEq, Prod.mk.injEq] at h
        obtain ⟨e0, e1, e2⟩ := h
        exact kRetV hx hb hr hlk (by rw [← hw1, ← e0, ← e1, ← e2]; exact hP) hS dX9_evaluateAll_114
      · have h := ifn h c4
        refine lv_aload_n hx hb dX9_evaluateAll_71 rfl (lv_at hl 0 rfl) ?_
        refine va_get (D := D) (ci := 9) (v := .ref a_z_values) (C := RX9) (T := TX9) (N := 13) hx hb hts hinX9 hown hKK.1 hP 0 rfl rfl 10 (by decide) lk32 (fun _ h9 => h9) rfl dX9_evaluateAll_72 ?_
        refine lv_iload_n hx hb dX9_evaluateAll_75 rfl (lv_at hl 2 rfl) ?_
        refine lv_aload_n hx hb dX9_evaluateAll_76 rfl (lv_at hl 0 rfl) ?_
        refine lv_aload_n hx hb dX9_evaluateAll_77 rfl (lv_at hl 0 rfl) ?_
        refine va_get (D := D) (ci := 9) (v := .ref a_z_s) (C := RX9) (T := TX9) (N := 13) hx hb hts hinX9 hown hKK.1 hP 0 rfl rfl 0 (by decide) lk7 (fun _ h9 => h9) rfl dX9_evaluateAll_78 ?_
        refine lv_aload_n hx hb dX9_evaluateAll_81 rfl (lv_at hl 0 rfl) ?_
        refine lv_iload_n hx hb dX9_evaluateAll_82 rfl (lv_at hl 1 rfl) ?_
        refine lv_iconst (v := 5) hx hb dX9_evaluateAll_83 (by decide) ?_
        refine lv_iload_n hx hb dX9_evaluateAll_84 rfl (lv_at hl 2 rfl) ?_
        refine lv_iadd hx hb dX9_evaluateAll_85 ?_
        obtain ⟨v5, ev5, h⟩ := bn_some h
        refine kV (As := [.int y1, .int (5 + y2)]) (rest := [.ref a_z_s, .ref a_z, .int y2, .ref a_z_values]) SS hKK (qX9_at l D cI cM a_z a_z_s a_z_past a_z_keeps a_z_entryKey a_z_entryDefault a_z_held a_z_values a_z_kinds a_z_news z_s z_past z_pasts z_changed z_entries z_keeps z_entryKey z_entryDefault z_counter z_held z_values z_kinds z_news y1 (5 + y2) v5 ev5) cw111 hs2 0 9 rfl rfl rfl hl.1 rfl (Nat.le_of_ble_eq_true rfl) dX9_evaluateAll_86 ⟨Nat.zero_le _, Nat.zero_le _⟩ ?_
        obtain ⟨v6, iv6, ev6, h⟩ := rd_some h
        refine kAld hx hb hKK hP 1 rfl iv6 ev6 dX9_evaluateAll_89 ?_
        refine lv_aload_n hx hb dX9_evaluateAll_90 rfl (lv_at hl 0 rfl) ?_
        refine va_get (D := D) (ci := 9) (v := .ref a_z_s) (C := RX9) (T := TX9) (N := 13) hx hb hts hinX9 hown hKK.1 hP 0 rfl rfl 0 (by decide) lk7 (fun _ h9 => h9) rfl dX9_evaluateAll_91 ?_
        refine lv_aload_n hx hb dX9_evaluateAll_94 rfl (lv_at hl 0 rfl) ?_
        refine lv_iload_n hx hb dX9_evaluateAll_95 rfl (lv_at hl 1 rfl) ?_
        refine lv_bipush (v := 10) hx hb dX9_evaluateAll_96 (by decide) ?_
        refine lv_iload_n hx hb dX9_evaluateAll_98 rfl (lv_at hl 2 rfl) ?_
        refine lv_iadd hx hb dX9_evaluateAll_99 ?_
        obtain ⟨v7, ev7, h⟩ := bn_some h
        refine kV (As := [.int y1, .int (10 + y2)]) (rest := [.ref a_z_s, .int v6, .ref a_z, .int y2, .ref a_z_values]) SS hKK (qX9_at l D cI cM a_z a_z_s a_z_past a_z_keeps a_z_entryKey a_z_entryDefault a_z_held a_z_values a_z_kinds a_z_news z_s z_past z_pasts z_changed z_entries z_keeps z_entryKey z_entryDefault z_counter z_held z_values z_kinds z_news y1 (10 + y2) v7 ev7) cw111 hs2 0 9 rfl rfl rfl hl.1 rfl (Nat.le_of_ble_eq_true rfl) dX9_evaluateAll_100 ⟨Nat.zero_le _, Nat.zero_le _⟩ ?_
        obtain ⟨v8, iv8, ev8, h⟩ := rd_some h
        refine kAld hx hb hKK hP 1 rfl iv8 ev8 dX9_evaluateAll_103 ?_
        obtain ⟨v9, g10, ev9, h⟩ := bn2_some h
        refine kVI (As := [.int v6, .int v8]) (rest := [.int y2, .ref a_z_values]) (st1 := [.int v9, .int y2, .ref a_z_values]) SS hKK (qX9_evaluate l D cI cM a_z a_z_s a_z_past a_z_keeps a_z_entryKey a_z_entryDefault a_z_held a_z_values a_z_kinds a_z_news z_s z_past z_pasts z_changed z_entries z_keeps z_entryKey z_entryDefault z_counter z_held z_values z_kinds z_news v6 v8 v9 g10 ev9) cw138 hP hD hS [0, 1, 2, 3, 4, 5, 6, 7, 8, 9] rfl rfl rfl rfl 0 9 rfl rfl rfl hl.1 rfl (Nat.le_of_ble_eq_true rfl) dX9_evaluateAll_104 ⟨Nat.zero_le _, Nat.zero_le _⟩ rfl (fun H locs hP hD hS => ?_)
        have hP : va_P D vwCl (W_z cI cM a_z a_z_s a_z_past a_z_keeps a_z_entryKey a_z_entryDefault a_z_held a_z_values a_z_kinds a_z_news z_s z_past z_pasts z_changed z_entries z_keeps z_entryKey z_entryDefault g10 z_held z_values z_kinds z_news) H := hP
        have hD : va_D _ (W_z cI cM a_z a_z_s a_z_past a_z_keeps a_z_entryKey a_z_entryDefault a_z_held a_z_values a_z_kinds a_z_news z_s z_past z_pasts z_changed z_entries z_keeps z_entryKey z_entryDefault g10 z_held z_values z_kinds z_news) := hD
        obtain ⟨g11, ig11, eg11, h⟩ := wr_some h
        refine kAst hx hb hKK hP hD hS 7 rfl ig11 eg11 dX9_evaluateAll_107 (fun H locs hP hD hS => ?_)
        have hP : va_P D vwCl (W_z cI cM a_z a_z_s a_z_past a_z_keeps a_z_entryKey a_z_entryDefault a_z_held a_z_values a_z_kinds a_z_news z_s z_past z_pasts z_changed z_entries z_keeps z_entryKey z_entryDefault g10 z_held g11 z_kinds z_news) H := hP
        have hD : va_D _ (W_z cI cM a_z a_z_s a_z_past a_z_keeps a_z_entryKey a_z_entryDefault a_z_held a_z_values a_z_kinds a_z_news z_s z_past z_pasts z_changed z_entries z_keeps z_entryKey z_entryDefault g10 z_held g11 z_kinds z_news) := hD
        refine lv_iinc (v := y2 + 1) (lv' := [(2, .int (y2 + 1)), (0, .ref a_z), (1, .int y1)]) hx hb dX9_evaluateAll_108 hl (k := 2) rfl rfl (by decide) rfl (fun ls hl => ?_)
        refine lv_goto (tgt := 56) hx hb dX9_evaluateAll_111 (by decide) ?_
        exact ih H locs g10 z_held g11 y1 (y2 + 1) h hP hD hS ls (lv_sub (l' := [(0, .ref a_z), (1, .int y1), (2, .int (y2 + 1))]) hl [1, 2, 0] rfl)
  have F7 : ∀ (n : Nat) (H : Heap) (locs : List Loc) (z_counter : Int32) (z_held : Nat → Int32) (z_values : Nat → Int32) (y1 : Int32) (y2 : Int32), lX9_evaluateAll_7 z_s n z_counter z_held z_values y1 y2 = some (r_z_counter, r_z_held, r_z_values) → va_P D vwCl (W_z cI cM a_z a_z_s a_z_past a_z_keeps a_z_entryKey a_z_entryDefault a_z_held a_z_values a_z_kinds a_z_news z_s z_past z_pasts z_changed z_entries z_keeps z_entryKey z_entryDefault z_counter z_held z_values z_kinds z_news) H → va_D (fun q => q ∈ (w0).map (·.1)) (W_z cI cM a_z a_z_s a_z_past a_z_keeps a_z_entryKey a_z_entryDefault a_z_held a_z_values a_z_kinds a_z_news z_s z_past z_pasts z_changed z_entries z_keeps z_entryKey z_entryDefault z_counter z_held z_values z_kinds z_news) → va_S (fun q => q ∈ (w0).map (·.1)) s.heap H locs → ∀ ls : Array Slot, lv_has ls 3 [(0, .ref a_z), (1, .int y1), (2, .int y2)] → WI p l e rmX9_evaluateAll s m av below meth c D w0 w1 none H locs 7 ls [] := by
    intro n
    induction n with
    | zero => intro H locs z_counter z_held z_values y1 y2 h; exact no_some h
    | succ n ih =>
      intro H locs z_counter z_held z_values y1 y2 h hP hD hS ls hl
      rw [lX9_evaluateAll_7_s] at h
      refine lv_iload_n hx hb dX9_evaluateAll_7 rfl (lv_at hl 2 rfl) ?_
      refine lv_aload_n hx hb dX9_evaluateAll_8 rfl (lv_at hl 0 rfl) ?_
      refine va_get (D := D) (ci := 9) (v := .ref a_z_s) (C := RX9) (T := TX9) (N := 13) hx hb hts hinX9 hown hKK.1 hP 0 rfl rfl 0 (by decide) lk7 (fun _ h9 => h9) rfl dX9_evaluateAll_9 ?_
      refine lv_aload_n hx hb dX9_evaluateAll_12 rfl (lv_at hl 0 rfl) ?_
      refine lv_iload_n hx hb dX9_evaluateAll_13 rfl (lv_at hl 1 rfl) ?_
      refine lv_bipush (v := 20) hx hb dX9_evaluateAll_14 (by decide) ?_
      obtain ⟨v1, ev1, h⟩ := bn_some h
      have hs2 : va_P D vwCl (W_z cI cM a_z a_z_s a_z_past a_z_keeps a_z_entryKey a_z_entryDefault a_z_held a_z_values a_z_kinds a_z_news z_s z_past z_pasts z_changed z_entries z_keeps z_entryKey z_entryDefault z_counter z_held z_values z_kinds z_news) _ := hP.sub (ws' := W_z cI cM a_z a_z_s a_z_past a_z_keeps a_z_entryKey a_z_entryDefault a_z_held a_z_values a_z_kinds a_z_news z_s z_past z_pasts z_changed z_entries z_keeps z_entryKey z_entryDefault z_counter z_held z_values z_kinds z_news) [0, 1, 2, 3, 4, 5, 6, 7, 8, 9] rfl
      refine kV (As := [.int y1, .int 20]) (rest := [.ref a_z_s, .int y2]) SS hKK (qX9_at l D cI cM a_z a_z_s a_z_past a_z_keeps a_z_entryKey a_z_entryDefault a_z_held a_z_values a_z_kinds a_z_news z_s z_past z_pasts z_changed z_entries z_keeps z_entryKey z_entryDefault z_counter z_held z_values z_kinds z_news y1 20 v1 ev1) cw111 hs2 0 9 rfl rfl rfl hl.1 rfl (Nat.le_of_ble_eq_true rfl) dX9_evaluateAll_16 ⟨Nat.zero_le _, Nat.zero_le _⟩ ?_
      obtain ⟨v3, iv3, ev3, h⟩ := rd_some h
      refine kAld hx hb hKK hP 1 rfl iv3 ev3 dX9_evaluateAll_19 ?_
      refine lv_icmp_ge (tgt := 54) hx hb dX9_evaluateAll_20 (by decide) (fun c4 => ?_) (fun c4 => ?_)
      · have h := ifp h c4
        refine lv_iconst (v := 0) hx hb dX9_evaluateAll_54 (by decide) ?_
        refine lv_istore_n (lv' := [(2, .int 0), (0, .ref a_z), (1, .int y1)]) hx hb dX9_evaluateAll_55 rfl hl (by decide) rfl (fun ls hl => ?_)
        exact F56 5000 H locs z_counter z_held z_values y1 0 h hP hD hS ls (lv_sub (l' := [(0, .ref a_z), (1, .int y1), (2, .int 0)]) hl [1, 2, 0] rfl)
      · have h := ifn h c4
        refine lv_aload_n hx hb dX9_evaluateAll_23 rfl (lv_at hl 0 rfl) ?_
        refine va_get (D := D) (ci := 9) (v := .ref a_z_held) (C := RX9) (T := TX9) (N := 13) hx hb hts hinX9 hown hKK.1 hP 0 rfl rfl 9 (by decide) lk29 (fun _ h9 => h9) rfl dX9_evaluateAll_24 ?_
        refine lv_iload_n hx hb dX9_evaluateAll_27 rfl (lv_at hl 2 rfl) ?_
        refine lv_aload_n hx hb dX9_evaluateAll_28 rfl (lv_at hl 0 rfl) ?_
        refine lv_aload_n hx hb dX9_evaluateAll_29 rfl (lv_at hl 0 rfl) ?_
        refine va_get (D := D) (ci := 9) (v := .ref a_z_s) (C := RX9) (T := TX9) (N := 13) hx hb hts hinX9 hown hKK.1 hP 0 rfl rfl 0 (by decide) lk7 (fun _ h9 => h9) rfl dX9_evaluateAll_30 ?_
        refine lv_aload_n hx hb dX9_evaluateAll_33 rfl (lv_at hl 0 rfl) ?_
        refine lv_iload_n hx hb dX9_evaluateAll_34 rfl (lv_at hl 1 rfl) ?_
        refine lv_bipush (v := 21) hx hb dX9_evaluateAll_35 (by decide) ?_
        refine lv_iload_n hx hb dX9_evaluateAll_37 rfl (lv_at hl 2 rfl) ?_
        refine lv_iadd hx hb dX9_evaluateAll_38 ?_
        obtain ⟨v5, ev5, h⟩ := bn_some h
        refine kV (As := [.int y1, .int (21 + y2)]) (rest := [.ref a_z_s, .ref a_z, .int y2, .ref a_z_held]) SS hKK (qX9_at l D cI cM a_z a_z_s a_z_past a_z_keeps a_z_entryKey a_z_entryDefault a_z_held a_z_values a_z_kinds a_z_news z_s z_past z_pasts z_changed z_entries z_keeps z_entryKey z_entryDefault z_counter z_held z_values z_kinds z_news y1 (21 + y2) v5 ev5) cw111 hs2 0 9 rfl rfl rfl hl.1 rfl (Nat.le_of_ble_eq_true rfl) dX9_evaluateAll_39 ⟨Nat.zero_le _, Nat.zero_le _⟩ ?_
        obtain ⟨v6, iv6, ev6, h⟩ := rd_some h
        refine kAld hx hb hKK hP 1 rfl iv6 ev6 dX9_evaluateAll_42 ?_
        refine lv_iconst (v := 0) hx hb dX9_evaluateAll_43 (by decide) ?_
        obtain ⟨v7, g8, ev7, h⟩ := bn2_some h
        refine kVI (As := [.int v6, .int 0]) (rest := [.int y2, .ref a_z_held]) (st1 := [.int v7, .int y2, .ref a_z_held]) SS hKK (qX9_evaluate l D cI cM a_z a_z_s a_z_past a_z_keeps a_z_entryKey a_z_entryDefault a_z_held a_z_values a_z_kinds a_z_news z_s z_past z_pasts z_changed z_entries z_keeps z_entryKey z_entryDefault z_counter z_held z_values z_kinds z_news v6 0 v7 g8 ev7) cw138 hP hD hS [0, 1, 2, 3, 4, 5, 6, 7, 8, 9] rfl rfl rfl rfl 0 9 rfl rfl rfl hl.1 rfl (Nat.le_of_ble_eq_true rfl) dX9_evaluateAll_44 ⟨Nat.zero_le _, Nat.zero_le _⟩ rfl (fun H locs hP hD hS => ?_)
        have hP : va_P D vwCl (W_z cI cM a_z a_z_s a_z_past a_z_keeps a_z_entryKey a_z_entryDefault a_z_held a_z_values a_z_kinds a_z_news z_s z_past z_pasts z_changed z_entries z_keeps z_entryKey z_entryDefault g8 z_held z_values z_kinds z_news) H := hP
        have hD : va_D _ (W_z cI cM a_z a_z_s a_z_past a_z_keeps a_z_entryKey a_z_entryDefault a_z_held a_z_values a_z_kinds a_z_news z_s z_past z_pasts z_changed z_entries z_keeps z_entryKey z_entryDefault g8 z_held z_values z_kinds z_news) := hD
        obtain ⟨g9, ig9, eg9, h⟩ := wr_some h
        refine kAst hx hb hKK hP hD hS 6 rfl ig9 eg9 dX9_evaluateAll_47 (fun H locs hP hD hS => ?_)
        have hP : va_P D vwCl (W_z cI cM a_z a_z_s a_z_past a_z_keeps a_z_entryKey a_z_entryDefault a_z_held a_z_values a_z_kinds a_z_news z_s z_past z_pasts z_changed z_entries z_keeps z_entryKey z_entryDefault g8 g9 z_values z_kinds z_news) H := hP
        have hD : va_D _ (W_z cI cM a_z a_z_s a_z_past a_z_keeps a_z_entryKey a_z_entryDefault a_z_held a_z_values a_z_kinds a_z_news z_s z_past z_pasts z_changed z_entries z_keeps z_entryKey z_entryDefault g8 g9 z_values z_kinds z_news) := hD
        refine lv_iinc (v := y2 + 1) (lv' := [(2, .int (y2 + 1)), (0, .ref a_z), (1, .int y1)]) hx hb dX9_evaluateAll_48 hl (k := 2) rfl rfl (by decide) rfl (fun ls hl => ?_)
        refine lv_goto (tgt := 7) hx hb dX9_evaluateAll_51 (by decide) ?_
        exact ih H locs g8 g9 z_values y1 (y2 + 1) h hP hD hS ls (lv_sub (l' := [(0, .ref a_z), (1, .int y1), (2, .int (y2 + 1))]) hl [1, 2, 0] rfl)
  unfold fX9_evaluateAll at h
  refine lv_aload_n hx hb dX9_evaluateAll_0 rfl (lv_at hl 0 rfl) ?_
  refine lv_iconst (v := 0) hx hb dX9_evaluateAll_1 (by decide) ?_
  refine va_put (D := D) (ci := 9) (v := .int 0) (ty := .int) (C := RX9) (T := TX9) (N := 13) hx hb hts hinX9 tyX9 tyX9_ok nmX9 hown hKK.1 hP hD hS 0 rfl rfl 8 (by decide) lk135 (fun _ h9 => h9) rfl (by decide +kernel) rfl rfl (Nat.le_of_ble_eq_true rfl) dX9_evaluateAll_2 (fun H locs hP hD hS => ?_)
  have hP : va_P D vwCl (W_z cI cM a_z a_z_s a_z_past a_z_keeps a_z_entryKey a_z_entryDefault a_z_held a_z_values a_z_kinds a_z_news z_s z_past z_pasts z_changed z_entries z_keeps z_entryKey z_entryDefault 0 z_held z_values z_kinds z_news) H := hP
  have hD : va_D _ (W_z cI cM a_z a_z_s a_z_past a_z_keeps a_z_entryKey a_z_entryDefault a_z_held a_z_values a_z_kinds a_z_news z_s z_past z_pasts z_changed z_entries z_keeps z_entryKey z_entryDefault 0 z_held z_values z_kinds z_news) := hD
  refine lv_iconst (v := 0) hx hb dX9_evaluateAll_5 (by decide) ?_
  refine lv_istore_n (lv' := [(2, .int 0), (0, .ref a_z), (1, .int x1)]) hx hb dX9_evaluateAll_6 rfl hl (by decide) rfl (fun ls hl => ?_)
  exact F7 5000 H locs 0 z_held z_values x1 0 h hP hD hS ls (lv_sub (l' := [(0, .ref a_z), (1, .int x1), (2, .int 0)]) hl [1, 2, 0] rfl)
set_option maxHeartbeats 8000000 in
set_option maxRecDepth 100000 in
theorem qX9_valueFor (l : Launch) (D : va_G) (cI cM : ClassId) (a_z a_z_s a_z_past a_z_keeps a_z_entryKey a_z_entryDefault a_z_held a_z_values a_z_kinds a_z_news : Nat) (z_s : Nat → Int32) (z_past : Nat → Int32) (z_pasts : Int32) (z_changed : Int32) (z_entries : Int32) (z_keeps : Nat → Int32) (z_entryKey : Nat → Int32) (z_entryDefault : Nat → Int32) (z_counter : Int32) (z_held : Nat → Int32) (z_values : Nat → Int32) (z_kinds : Nat → Int32) (z_news : Nat → Int32) (x1 : Int32) (x2 : Int32) (x3 : Int32) (r : Int32) (h : fX9_valueFor z_s z_values x1 x2 x3 = some r) : PM l yX9_valueFor wsX9_valueFor rmX9_valueFor D cI cM [.ref a_z, .int x1, .int x2, .int x3] (W_z cI cM a_z a_z_s a_z_past a_z_keeps a_z_entryKey a_z_entryDefault a_z_held a_z_values a_z_kinds a_z_news z_s z_past z_pasts z_changed z_entries z_keeps z_entryKey z_entryDefault z_counter z_held z_values z_kinds z_news) r := by
  refine PM.of (cc := cX9_valueFor) (maxL := 6) (ret := (some .int)) (by decide) rfl (Nat.le_of_ble_eq_true rfl) ?_
  intro p e s m below meth c ls hx hb hr hml hown hts hlk hP hKK hl
  have hown : s.vm.findClass RX9 = some m.cls := hown
  have hl : lv_has ls 6 [(0, .ref a_z), (1, .int x1), (2, .int x2), (3, .int x3)] := hl
  generalize hav : ([.ref a_z, .int x1, .int x2, .int x3] : List Value) = av at hts ⊢
  have SS : CallFix p m c cX9_valueFor 6 s av.toArray wsX9_valueFor RX9 := ⟨hx, hb, hml, hown, hts⟩
  have hinX9 : ∀ w ∈ u_ws RX9 TX9 13, w ∈ wsX9_valueFor := by decide +kernel
  have lk7 := hts (.fieldLink RX9 7 "SignatureChangerModel" "s" "[I") (List.mem_of_getElem? (i := 1) rfl)
  have lk32 := hts (.fieldLink RX9 32 "SignatureChangerModel" "values" "[I") (List.mem_of_getElem? (i := 2) rfl)
  have cw63 : CallW rmX9_valueFor s av.toArray RX9 RX9 63 yX9_of cX9_of 3 (some .int) wsX9_of rmX9_of 0 0 2 := cwV 2 hts gX9_valueFor_X9_of rfl rfl rfl (by decide +kernel) ⟨Nat.le_of_ble_eq_true rfl, Nat.le_of_ble_eq_true rfl⟩
  have cw111 : CallW rmX9_valueFor s av.toArray RX9 RX9 111 yX9_at cX9_at 3 (some .int) wsX9_at rmX9_at 0 0 2 := cwV 2 hts gX9_valueFor_X9_at rfl rfl rfl (by decide +kernel) ⟨Nat.le_of_ble_eq_true rfl, Nat.le_of_ble_eq_true rfl⟩
  have F68 : ∀ (k14 : Int32 → Int32 → Int32 → Int32 → Int32 → Option (Int32)) (hk14 : ∀ (u1 : Int32) (u2 : Int32) (u3 : Int32) (u4 : Int32) (u5 : Int32), k14 u1 u2 u3 u4 u5 = some r → ∀ ls : Array Slot, lv_has ls 6 [(0, .ref a_z), (1, .int u1), (2, .int u2), (3, .int u3), (4, .int u4), (5, .int u5)] → WP p l e rmX9_valueFor s m av below meth c r 14 ls []), ∀ (y1 : Int32) (y2 : Int32) (y3 : Int32) (y5 : Int32) (s0 : Int32), jX9_valueFor_68 z_s z_values k14 y1 y2 y3 y5 s0 = some r → ∀ ls : Array Slot, lv_has ls 6 [(0, .ref a_z), (1, .int y1), (2, .int y2), (3, .int y3), (5, .int y5)] → WP p l e rmX9_valueFor s m av below meth c r 68 ls [.int s0] := by
    intro k14 hk14
    intro y1 y2 y3 y5 s0 h ls hl
    unfold jX9_valueFor_68 at h
    refine lv_istore (lv' := [(4, .int s0), (0, .ref a_z), (1, .int y1), (2, .int y2), (3, .int y3), (5, .int y5)]) hx hb dX9_valueFor_68 hl (by decide) rfl (fun ls hl => ?_)
    refine lv_iinc (v := y5 + 1) (lv' := [(5, .int (y5 + 1)), (4, .int s0), (0, .ref a_z), (1, .int y1), (2, .int y2), (3, .int y3)]) hx hb dX9_valueFor_70 hl (k := 5) rfl rfl (by decide) rfl (fun ls hl => ?_)
    refine lv_goto (tgt := 14) hx hb dX9_valueFor_73 (by decide) ?_
    exact hk14 y1 y2 y3 s0 (y5 + 1) h ls (lv_sub (l' := [(0, .ref a_z), (1, .int y1), (2, .int y2), (3, .int y3), (4, .int s0), (5, .int (y5 + 1))]) hl [2, 3, 4, 5, 1, 0] rfl)
  have F14 : ∀ (n : Nat) (y1 : Int32) (y2 : Int32) (y3 : Int32) (y4 : Int32) (y5 : Int32), lX9_valueFor_14 z_s z_values n y1 y2 y3 y4 y5 = some r → ∀ ls : Array Slot, lv_has ls 6 [(0, .ref a_z), (1, .int y1), (2, .int y2), (3, .int y3), (4, .int y4), (5, .int y5)] → WP p l e rmX9_valueFor s m av below meth c r 14 ls [] := by
    intro n
    induction n with
    | zero => intro y1 y2 y3 y4 y5 h; exact no_some h
    | succ n ih =>
      intro y1 y2 y3 y4 y5 h ls hl
      rw [lX9_valueFor_14_s] at h
      refine lv_iload hx hb dX9_valueFor_14 (lv_at hl 5 rfl) ?_
      refine lv_aload_n hx hb dX9_valueFor_16 rfl (lv_at hl 0 rfl) ?_
      refine va_get (D := D) (ci := 9) (v := .ref a_z_s) (C := RX9) (T := TX9) (N := 13) hx hb hts hinX9 hown hKK.1 hP 0 rfl rfl 0 (by decide) lk7 (fun _ h9 => h9) rfl dX9_valueFor_17 ?_
      refine lv_aload_n hx hb dX9_valueFor_20 rfl (lv_at hl 0 rfl) ?_
      refine lv_iload_n hx hb dX9_valueFor_21 rfl (lv_at hl 1 rfl) ?_
      refine lv_iconst (v := 4) hx hb dX9_valueFor_22 (by decide) ?_
      obtain ⟨v1, ev1, h⟩ := bn_some h
      have hs2 : va_P D vwCl (W_z cI cM a_z a_z_s a_z_past a_z_keeps a_z_entryKey a_z_entryDefault a_z_held a_z_values a_z_kinds a_z_news z_s z_past z_pasts z_changed z_entries z_keeps z_entryKey z_entryDefault z_counter z_held z_values z_kinds z_news) _ := hP.sub (ws' := W_z cI cM a_z a_z_s a_z_past a_z_keeps a_z_entryKey a_z_entryDefault a_z_held a_z_values a_z_kinds a_z_news z_s z_past z_pasts z_changed z_entries z_keeps z_entryKey z_entryDefault z_counter z_held z_values z_kinds z_news) [0, 1, 2, 3, 4, 5, 6, 7, 8, 9] rfl
      refine kV (As := [.int y1, .int 4]) (rest := [.ref a_z_s, .int y5]) SS hKK (qX9_at l D cI cM a_z a_z_s a_z_past a_z_keeps a_z_entryKey a_z_entryDefault a_z_held a_z_values a_z_kinds a_z_news z_s z_past z_pasts z_changed z_entries z_keeps z_entryKey z_entryDefault z_counter z_held z_values z_kinds z_news y1 4 v1 ev1) cw111 hs2 0 9 rfl rfl rfl hl.1 rfl (Nat.le_of_ble_eq_true rfl) dX9_valueFor_23 ⟨Nat.zero_le _, Nat.zero_le _⟩ ?_
      obtain ⟨v3, iv3, ev3, h⟩ := rd_some h
      refine kAld hx hb hKK hP 1 rfl iv3 ev3 dX9_valueFor_26 ?_
      refine lv_icmp_ge (tgt := 76) hx hb dX9_valueFor_27 (by decide) (fun c4 => ?_) (fun c4 => ?_)
      · have h := ifp h c4
        refine lv_iload hx hb dX9_valueFor_76 (lv_at hl 4 rfl) ?_
        exact kRet hx hb hr hlk (Option.some.inj h) dX9_valueFor_78
      · have h := ifn h c4
        refine lv_aload_n hx hb dX9_valueFor_30 rfl (lv_at hl 0 rfl) ?_
        refine va_get (D := D) (ci := 9) (v := .ref a_z_s) (C := RX9) (T := TX9) (N := 13) hx hb hts hinX9 hown hKK.1 hP 0 rfl rfl 0 (by decide) lk7 (fun _ h9 => h9) rfl dX9_valueFor_31 ?_
        refine lv_aload_n hx hb dX9_valueFor_34 rfl (lv_at hl 0 rfl) ?_
        refine lv_iload_n hx hb dX9_valueFor_35 rfl (lv_at hl 1 rfl) ?_
        refine lv_bipush (v := 15) hx hb dX9_valueFor_36 (by decide) ?_
        refine lv_iload hx hb dX9_valueFor_38 (lv_at hl 5 rfl) ?_
        refine lv_iadd hx hb dX9_valueFor_40 ?_
        obtain ⟨v5, ev5, h⟩ := bn_some h
        refine kV (As := [.int y1, .int (15 + y5)]) (rest := [.ref a_z_s]) SS hKK (qX9_at l D cI cM a_z a_z_s a_z_past a_z_keeps a_z_entryKey a_z_entryDefault a_z_held a_z_values a_z_kinds a_z_news z_s z_past z_pasts z_changed z_entries z_keeps z_entryKey z_entryDefault z_counter z_held z_values z_kinds z_news y1 (15 + y5) v5 ev5) cw111 hs2 0 9 rfl rfl rfl hl.1 rfl (Nat.le_of_ble_eq_true rfl) dX9_valueFor_41 ⟨Nat.zero_le _, Nat.zero_le _⟩ ?_
        obtain ⟨v6, iv6, ev6, h⟩ := rd_some h
        refine kAld hx hb hKK hP 1 rfl iv6 ev6 dX9_valueFor_44 ?_
        refine lv_aload_n hx hb dX9_valueFor_45 rfl (lv_at hl 0 rfl) ?_
        refine lv_iload_n hx hb dX9_valueFor_46 rfl (lv_at hl 2 rfl) ?_
        refine lv_iconst (v := 3) hx hb dX9_valueFor_47 (by decide) ?_
        refine lv_iload_n hx hb dX9_valueFor_48 rfl (lv_at hl 3 rfl) ?_
        refine lv_iadd hx hb dX9_valueFor_49 ?_
        obtain ⟨v7, ev7, h⟩ := bn_some h
        refine kV (As := [.int y2, .int (3 + y3)]) (rest := [.int v6]) SS hKK (qX9_of l D cI cM a_z a_z_s a_z_past a_z_keeps a_z_entryKey a_z_entryDefault a_z_held a_z_values a_z_kinds a_z_news z_s z_past z_pasts z_changed z_entries z_keeps z_entryKey z_entryDefault z_counter z_held z_values z_kinds z_news y2 (3 + y3) v7 ev7) cw63 hs2 0 9 rfl rfl rfl hl.1 rfl (Nat.le_of_ble_eq_true rfl) dX9_valueFor_50 ⟨Nat.zero_le _, Nat.zero_le _⟩ ?_
        refine lv_icmp_ne (tgt := 66) hx hb dX9_valueFor_53 (by decide) (fun c8 => ?_) (fun c8 => ?_)
        · have h := ifn h c8
          refine lv_iload hx hb dX9_valueFor_66 (lv_at hl 4 rfl) ?_
          exact F68 (fun u1 u2 u3 u4 u5 => lX9_valueFor_14 z_s z_values n u1 u2 u3 u4 u5) (fun u1 u2 u3 u4 u5 h ls hl => ih u1 u2 u3 u4 u5 h ls hl) y1 y2 y3 y5 y4 h ls (lv_sub (l' := [(0, .ref a_z), (1, .int y1), (2, .int y2), (3, .int y3), (5, .int y5)]) hl [0, 1, 2, 3, 5] rfl)
        · have h := ifp h c8
          refine lv_aload_n hx hb dX9_valueFor_56 rfl (lv_at hl 0 rfl) ?_
          refine va_get (D := D) (ci := 9) (v := .ref a_z_values) (C := RX9) (T := TX9) (N := 13) hx hb hts hinX9 hown hKK.1 hP 0 rfl rfl 10 (by decide) lk32 (fun _ h9 => h9) rfl dX9_valueFor_57 ?_
          refine lv_iload hx hb dX9_valueFor_60 (lv_at hl 5 rfl) ?_
          obtain ⟨v9, iv9, ev9, h⟩ := rd_some h
          refine kAld hx hb hKK hP 7 rfl iv9 ev9 dX9_valueFor_62 ?_
          refine lv_goto (tgt := 68) hx hb dX9_valueFor_63 (by decide) ?_
          exact F68 (fun u1 u2 u3 u4 u5 => lX9_valueFor_14 z_s z_values n u1 u2 u3 u4 u5) (fun u1 u2 u3 u4 u5 h ls hl => ih u1 u2 u3 u4 u5 h ls hl) y1 y2 y3 y5 v9 h ls (lv_sub (l' := [(0, .ref a_z), (1, .int y1), (2, .int y2), (3, .int y3), (5, .int y5)]) hl [0, 1, 2, 3, 5] rfl)
  unfold fX9_valueFor at h
  refine lv_aload_n hx hb dX9_valueFor_0 rfl (lv_at hl 0 rfl) ?_
  refine lv_iload_n hx hb dX9_valueFor_1 rfl (lv_at hl 2 rfl) ?_
  refine lv_bipush (v := 8) hx hb dX9_valueFor_2 (by decide) ?_
  refine lv_iload_n hx hb dX9_valueFor_4 rfl (lv_at hl 3 rfl) ?_
  refine lv_iadd hx hb dX9_valueFor_5 ?_
  obtain ⟨v1, ev1, h⟩ := bn_some h
  have hs2 : va_P D vwCl (W_z cI cM a_z a_z_s a_z_past a_z_keeps a_z_entryKey a_z_entryDefault a_z_held a_z_values a_z_kinds a_z_news z_s z_past z_pasts z_changed z_entries z_keeps z_entryKey z_entryDefault z_counter z_held z_values z_kinds z_news) _ := hP.sub (ws' := W_z cI cM a_z a_z_s a_z_past a_z_keeps a_z_entryKey a_z_entryDefault a_z_held a_z_values a_z_kinds a_z_news z_s z_past z_pasts z_changed z_entries z_keeps z_entryKey z_entryDefault z_counter z_held z_values z_kinds z_news) [0, 1, 2, 3, 4, 5, 6, 7, 8, 9] rfl
  refine kV (As := [.int x2, .int (8 + x3)]) (rest := []) SS hKK (qX9_of l D cI cM a_z a_z_s a_z_past a_z_keeps a_z_entryKey a_z_entryDefault a_z_held a_z_values a_z_kinds a_z_news z_s z_past z_pasts z_changed z_entries z_keeps z_entryKey z_entryDefault z_counter z_held z_values z_kinds z_news x2 (8 + x3) v1 ev1) cw63 hs2 0 9 rfl rfl rfl hl.1 rfl (Nat.le_of_ble_eq_true rfl) dX9_valueFor_6 ⟨Nat.zero_le _, Nat.zero_le _⟩ ?_
  refine lv_istore (lv' := [(4, .int v1), (0, .ref a_z), (1, .int x1), (2, .int x2), (3, .int x3)]) hx hb dX9_valueFor_9 hl (by decide) rfl (fun ls hl => ?_)
  refine lv_iconst (v := 0) hx hb dX9_valueFor_11 (by decide) ?_
  refine lv_istore (lv' := [(5, .int 0), (4, .int v1), (0, .ref a_z), (1, .int x1), (2, .int x2), (3, .int x3)]) hx hb dX9_valueFor_12 hl (by decide) rfl (fun ls hl => ?_)
  exact F14 5000 x1 x2 x3 v1 0 h ls (lv_sub (l' := [(0, .ref a_z), (1, .int x1), (2, .int x2), (3, .int x3), (4, .int v1), (5, .int 0)]) hl [2, 3, 4, 5, 1, 0] rfl)
set_option maxHeartbeats 8000000 in
set_option maxRecDepth 100000 in
theorem qX9_dispatch (l : Launch) (D : va_G) (cI cM : ClassId) (a_z a_z_s a_z_past a_z_keeps a_z_entryKey a_z_entryDefault a_z_held a_z_values a_z_kinds a_z_news : Nat) (z_s : Nat → Int32) (z_past : Nat → Int32) (z_pasts : Int32) (z_changed : Int32) (z_entries : Int32) (z_keeps : Nat → Int32) (z_entryKey : Nat → Int32) (z_entryDefault : Nat → Int32) (z_counter : Int32) (z_held : Nat → Int32) (z_values : Nat → Int32) (z_kinds : Nat → Int32) (z_news : Nat → Int32) (x1 : Int32) (r : Int32) (h : fX9_dispatch z_s x1 = some r) : PM l yX9_dispatch wsX9_dispatch rmX9_dispatch D cI cM [.ref a_z, .int x1] (W_z cI cM a_z a_z_s a_z_past a_z_keeps a_z_entryKey a_z_entryDefault a_z_held a_z_values a_z_kinds a_z_news z_s z_past z_pasts z_changed z_entries z_keeps z_entryKey z_entryDefault z_counter z_held z_values z_kinds z_news) r := by
  refine PM.of (cc := cX9_dispatch) (maxL := 2) (ret := (some .int)) (by decide) rfl (Nat.le_of_ble_eq_true rfl) ?_
  intro p e s m below meth c ls hx hb hr hml hown hts hlk hP hKK hl
  have hown : s.vm.findClass RX9 = some m.cls := hown
  have hl : lv_has ls 2 [(0, .ref a_z), (1, .int x1)] := hl
  generalize hav : ([.ref a_z, .int x1] : List Value) = av at hts ⊢
  have SS : CallFix p m c cX9_dispatch 2 s av.toArray wsX9_dispatch RX9 := ⟨hx, hb, hml, hown, hts⟩
  have cw117 : CallW rmX9_dispatch s av.toArray RX9 RX9 117 yX9_isCall cX9_isCall 2 (some .boolean) wsX9_isCall rmX9_isCall 0 0 1 := cwV 1 hts gX9_dispatch_X9_isCall rfl rfl rfl (by decide +kernel) ⟨Nat.le_of_ble_eq_true rfl, Nat.le_of_ble_eq_true rfl⟩
  have cw141 : CallW rmX9_dispatch s av.toArray RX9 RX9 141 yX9_dispatched cX9_dispatched 6 (some .int) wsX9_dispatched rmX9_dispatched 0 0 1 := cwV 1 hts gX9_dispatch_X9_dispatched rfl rfl rfl (by decide +kernel) ⟨Nat.le_of_ble_eq_true rfl, Nat.le_of_ble_eq_true rfl⟩
  unfold fX9_dispatch at h
  refine lv_aload_n hx hb dX9_dispatch_0 rfl (lv_at hl 0 rfl) ?_
  refine lv_iload_n hx hb dX9_dispatch_1 rfl (lv_at hl 1 rfl) ?_
  obtain ⟨v1, ev1, h⟩ := bn_some h
  have hs2 : va_P D vwCl (W_z cI cM a_z a_z_s a_z_past a_z_keeps a_z_entryKey a_z_entryDefault a_z_held a_z_values a_z_kinds a_z_news z_s z_past z_pasts z_changed z_entries z_keeps z_entryKey z_entryDefault z_counter z_held z_values z_kinds z_news) _ := hP.sub (ws' := W_z cI cM a_z a_z_s a_z_past a_z_keeps a_z_entryKey a_z_entryDefault a_z_held a_z_values a_z_kinds a_z_news z_s z_past z_pasts z_changed z_entries z_keeps z_entryKey z_entryDefault z_counter z_held z_values z_kinds z_news) [0, 1, 2, 3, 4, 5, 6, 7, 8, 9] rfl
  refine kV (As := [.int x1]) (rest := []) SS hKK (qX9_isCall l D cI cM a_z a_z_s a_z_past a_z_keeps a_z_entryKey a_z_entryDefault a_z_held a_z_values a_z_kinds a_z_news z_s z_past z_pasts z_changed z_entries z_keeps z_entryKey z_entryDefault z_counter z_held z_values z_kinds z_news x1 v1 ev1) cw117 hs2 0 9 rfl rfl rfl hl.1 rfl (Nat.le_of_ble_eq_true rfl) dX9_dispatch_2 ⟨Nat.zero_le _, Nat.zero_le _⟩ ?_
  refine lv_if_eq (tgt := 16) hx hb dX9_dispatch_5 (by decide) (fun c3 => ?_) (fun c3 => ?_)
  · have h := ifp h c3
    refine lv_iconst (v := (-1)) hx hb dX9_dispatch_16 (by decide) ?_
    exact kRet hx hb hr hlk (Option.some.inj h) dX9_dispatch_17
  · have h := ifn h c3
    refine lv_aload_n hx hb dX9_dispatch_8 rfl (lv_at hl 0 rfl) ?_
    refine lv_iload_n hx hb dX9_dispatch_9 rfl (lv_at hl 1 rfl) ?_
    obtain ⟨v4, ev4, h⟩ := bn_some h
    refine kV (As := [.int x1]) (rest := []) SS hKK (qX9_dispatched l D cI cM a_z a_z_s a_z_past a_z_keeps a_z_entryKey a_z_entryDefault a_z_held a_z_values a_z_kinds a_z_news z_s z_past z_pasts z_changed z_entries z_keeps z_entryKey z_entryDefault z_counter z_held z_values z_kinds z_news x1 v4 ev4) cw141 hs2 0 9 rfl rfl rfl hl.1 rfl (Nat.le_of_ble_eq_true rfl) dX9_dispatch_10 ⟨Nat.zero_le _, Nat.zero_le _⟩ ?_
    refine lv_goto (tgt := 17) hx hb dX9_dispatch_13 (by decide) ?_
    exact kRet hx hb hr hlk (Option.some.inj h) dX9_dispatch_17
set_option maxHeartbeats 8000000 in
set_option maxRecDepth 100000 in
theorem qX9_run (l : Launch) (D : va_G) (cI cM : ClassId) (a_z a_z_s a_z_past a_z_keeps a_z_entryKey a_z_entryDefault a_z_held a_z_values a_z_kinds a_z_news : Nat) (z_s : Nat → Int32) (z_past : Nat → Int32) (z_pasts : Int32) (z_changed : Int32) (z_entries : Int32) (z_keeps : Nat → Int32) (z_entryKey : Nat → Int32) (z_entryDefault : Nat → Int32) (z_counter : Int32) (z_held : Nat → Int32) (z_values : Nat → Int32) (z_kinds : Nat → Int32) (z_news : Nat → Int32) (x1 : Int32) (r : Int32) (r_z_counter : Int32) (r_z_held : Nat → Int32) (r_z_values : Nat → Int32) (h : fX9_run z_s z_counter z_held z_values x1 = some (r, r_z_counter, r_z_held, r_z_values)) : IM l yX9_run wsX9_run rmX9_run D cI cM [.ref a_z, .int x1] (W_z cI cM a_z a_z_s a_z_past a_z_keeps a_z_entryKey a_z_entryDefault a_z_held a_z_values a_z_kinds a_z_news z_s z_past z_pasts z_changed z_entries z_keeps z_entryKey z_entryDefault z_counter z_held z_values z_kinds z_news) (W_z cI cM a_z a_z_s a_z_past a_z_keeps a_z_entryKey a_z_entryDefault a_z_held a_z_values a_z_kinds a_z_news z_s z_past z_pasts z_changed z_entries z_keeps z_entryKey z_entryDefault r_z_counter r_z_held r_z_values z_kinds z_news) (some (.int r)) := by
  refine IM.of (cc := cX9_run) (maxL := 5) (ret := (some .int)) (by decide) rfl (Nat.le_of_ble_eq_true rfl) ?_
  intro p e s m below meth c ls hx hb hr hml hown hts hlk hKK hP hD hS hl
  have hown : s.vm.findClass RX9 = some m.cls := hown
  have hl : lv_has ls 5 [(0, .ref a_z), (1, .int x1)] := hl
  generalize hav : ([.ref a_z, .int x1] : List Value) = av at hts ⊢
  generalize hw1 : W_z cI cM a_z a_z_s a_z_past a_z_keeps a_z_entryKey a_z_entryDefault a_z_held a_z_values a_z_kinds a_z_news z_s z_past z_pasts z_changed z_entries z_keeps z_entryKey z_entryDefault r_z_counter r_z_held r_z_values z_kinds z_news = w1
  generalize hw0 : W_z cI cM a_z a_z_s a_z_past a_z_keeps a_z_entryKey a_z_entryDefault a_z_held a_z_values a_z_kinds a_z_news z_s z_past z_pasts z_changed z_entries z_keeps z_entryKey z_entryDefault z_counter z_held z_values z_kinds z_news = w0 at hD hS ⊢
  have hP : va_P D vwCl (W_z cI cM a_z a_z_s a_z_past a_z_keeps a_z_entryKey a_z_entryDefault a_z_held a_z_values a_z_kinds a_z_news z_s z_past z_pasts z_changed z_entries z_keeps z_entryKey z_entryDefault z_counter z_held z_values z_kinds z_news) s.heap := hP
  have hD : va_D (fun q => q ∈ w0.map (·.1)) (W_z cI cM a_z a_z_s a_z_past a_z_keeps a_z_entryKey a_z_entryDefault a_z_held a_z_values a_z_kinds a_z_news z_s z_past z_pasts z_changed z_entries z_keeps z_entryKey z_entryDefault z_counter z_held z_values z_kinds z_news) := by rw [hw0]; exact hD
  have SS : CallFix p m c cX9_run 5 s av.toArray wsX9_run RX9 := ⟨hx, hb, hml, hown, hts⟩
  have cw63 : CallW rmX9_run s av.toArray RX9 RX9 63 yX9_of cX9_of 3 (some .int) wsX9_of rmX9_of 0 0 2 := cwV 2 hts gX9_run_X9_of rfl rfl rfl (by decide +kernel) ⟨Nat.le_of_ble_eq_true rfl, Nat.le_of_ble_eq_true rfl⟩
  have cw117 : CallW rmX9_run s av.toArray RX9 RX9 117 yX9_isCall cX9_isCall 2 (some .boolean) wsX9_isCall rmX9_isCall 0 0 1 := cwV 1 hts gX9_run_X9_isCall rfl rfl rfl (by decide +kernel) ⟨Nat.le_of_ble_eq_true rfl, Nat.le_of_ble_eq_true rfl⟩
  have cw141 : CallW rmX9_run s av.toArray RX9 RX9 141 yX9_dispatched cX9_dispatched 6 (some .int) wsX9_dispatched rmX9_dispatched 0 0 1 := cwV 1 hts gX9_run_X9_dispatched rfl rfl rfl (by decide +kernel) ⟨Nat.le_of_ble_eq_true rfl, Nat.le_of_ble_eq_true rfl⟩
  have cw144 : CallW rmX9_run s av.toArray RX9 RX9 144 yX9_evaluateAll cX9_evaluateAll 3 none wsX9_evaluateAll rmX9_evaluateAll 0 0 1 := cwV 1 hts gX9_run_X9_evaluateAll rfl rfl rfl (by decide +kernel) ⟨Nat.le_of_ble_eq_true rfl, Nat.le_of_ble_eq_true rfl⟩
  have cw148 : CallW rmX9_run s av.toArray RX9 RX9 148 yX9_valueFor cX9_valueFor 6 (some .int) wsX9_valueFor rmX9_valueFor 0 0 3 := cwV 3 hts gX9_run_X9_valueFor rfl rfl rfl (by decide +kernel) ⟨Nat.le_of_ble_eq_true rfl, Nat.le_of_ble_eq_true rfl⟩
  have F46 : ∀ (n : Nat) (H : Heap) (locs : List Loc) (z_counter : Int32) (z_held : Nat → Int32) (z_values : Nat → Int32) (y1 : Int32) (y2 : Int32) (y3 : Int32) (y4 : Int32), lX9_run_46 z_s n z_counter z_held z_values y1 y2 y3 y4 = some (r, r_z_counter, r_z_held, r_z_values) → va_P D vwCl (W_z cI cM a_z a_z_s a_z_past a_z_keeps a_z_entryKey a_z_entryDefault a_z_held a_z_values a_z_kinds a_z_news z_s z_past z_pasts z_changed z_entries z_keeps z_entryKey z_entryDefault z_counter z_held z_values z_kinds z_news) H → va_D (fun q => q ∈ (w0).map (·.1)) (W_z cI cM a_z a_z_s a_z_past a_z_keeps a_z_entryKey a_z_entryDefault a_z_held a_z_values a_z_kinds a_z_news z_s z_past z_pasts z_changed z_entries z_keeps z_entryKey z_entryDefault z_counter z_held z_values z_kinds z_news) → va_S (fun q => q ∈ (w0).map (·.1)) s.heap H locs → ∀ ls : Array Slot, lv_has ls 5 [(0, .ref a_z), (1, .int y1), (2, .int y2), (3, .int y3), (4, .int y4)] → WI p l e rmX9_run s m av below meth c D w0 w1 (some (.int r)) H locs 46 ls [] := by
    intro n
    induction n with
    | zero => intro H locs z_counter z_held z_values y1 y2 y3 y4 h; exact no_some h
    | succ n ih =>
      intro H locs z_counter z_held z_values y1 y2 y3 y4 h hP hD hS ls hl
      rw [lX9_run_46_s] at h
      refine lv_iload hx hb dX9_run_46 (lv_at hl 4 rfl) ?_
      refine lv_aload_n hx hb dX9_run_48 rfl (lv_at hl 0 rfl) ?_
      refine lv_iload_n hx hb dX9_run_49 rfl (lv_at hl 2 rfl) ?_
      refine lv_iconst (v := 2) hx hb dX9_run_50 (by decide) ?_
      obtain ⟨v1, ev1, h⟩ := bn_some h
      have hs2 : va_P D vwCl (W_z cI cM a_z a_z_s a_z_past a_z_keeps a_z_entryKey a_z_entryDefault a_z_held a_z_values a_z_kinds a_z_news z_s z_past z_pasts z_changed z_entries z_keeps z_entryKey z_entryDefault z_counter z_held z_values z_kinds z_news) _ := hP.sub (ws' := W_z cI cM a_z a_z_s a_z_past a_z_keeps a_z_entryKey a_z_entryDefault a_z_held a_z_values a_z_kinds a_z_news z_s z_past z_pasts z_changed z_entries z_keeps z_entryKey z_entryDefault z_counter z_held z_values z_kinds z_news) [0, 1, 2, 3, 4, 5, 6, 7, 8, 9] rfl
      refine kV (As := [.int y2, .int 2]) (rest := [.int y4]) SS hKK (qX9_of l D cI cM a_z a_z_s a_z_past a_z_keeps a_z_entryKey a_z_entryDefault a_z_held a_z_values a_z_kinds a_z_news z_s z_past z_pasts z_changed z_entries z_keeps z_entryKey z_entryDefault z_counter z_held z_values z_kinds z_news y2 2 v1 ev1) cw63 hs2 0 9 rfl rfl rfl hl.1 rfl (Nat.le_of_ble_eq_true rfl) dX9_run_51 ⟨Nat.zero_le _, Nat.zero_le _⟩ ?_
      refine lv_icmp_ge (tgt := 86) hx hb dX9_run_54 (by decide) (fun c3 => ?_) (fun c3 => ?_)
      · have h := ifp h c3
        refine lv_iload_n hx hb dX9_run_86 rfl (lv_at hl 3 rfl) ?_
        simp only [Option.some.injEq, Prod.mk.injEq] at h
        obtain ⟨e0, e1, e2, e3⟩ := h
        exact kRetI hx hb hr hlk e0 (by rw [← hw1, ← e1, ← e2, ← e3]; exact hP) hS dX9_run_87
      · have h := ifn h c3
        refine lv_iload_n hx hb dX9_run_57 rfl (lv_at hl 3 rfl) ?_
        refine lv_aload_n hx hb dX9_run_58 rfl (lv_at hl 0 rfl) ?_
        refine lv_iload_n hx hb dX9_run_59 rfl (lv_at hl 2 rfl) ?_
        refine lv_iconst (v := 3) hx hb dX9_run_60 (by decide) ?_
        refine lv_iload hx hb dX9_run_61 (lv_at hl 4 rfl) ?_
        refine lv_iadd hx hb dX9_run_63 ?_
        obtain ⟨v4, ev4, h⟩ := bn_some h
        refine kV (As := [.int y2, .int (3 + y4)]) (rest := [.int y3]) SS hKK (qX9_of l D cI cM a_z a_z_s a_z_past a_z_keeps a_z_entryKey a_z_entryDefault a_z_held a_z_values a_z_kinds a_z_news z_s z_past z_pasts z_changed z_entries z_keeps z_entryKey z_entryDefault z_counter z_held z_values z_kinds z_news y2 (3 + y4) v4 ev4) cw63 hs2 0 9 rfl rfl rfl hl.1 rfl (Nat.le_of_ble_eq_true rfl) dX9_run_64 ⟨Nat.zero_le _, Nat.zero_le _⟩ ?_
        refine lv_iconst (v := 1) hx hb dX9_run_67 (by decide) ?_
        refine lv_iadd hx hb dX9_run_68 ?_
        refine lv_aload_n hx hb dX9_run_69 rfl (lv_at hl 0 rfl) ?_
        refine lv_iload_n hx hb dX9_run_70 rfl (lv_at hl 1 rfl) ?_
        refine lv_iload_n hx hb dX9_run_71 rfl (lv_at hl 2 rfl) ?_
        refine lv_iload hx hb dX9_run_72 (lv_at hl 4 rfl) ?_
        obtain ⟨v5, ev5, h⟩ := bn_some h
        refine kV (As := [.int y1, .int y2, .int y4]) (rest := [.int (v4 + 1), .int y3]) SS hKK (qX9_valueFor l D cI cM a_z a_z_s a_z_past a_z_keeps a_z_entryKey a_z_entryDefault a_z_held a_z_values a_z_kinds a_z_news z_s z_past z_pasts z_changed z_entries z_keeps z_entryKey z_entryDefault z_counter z_held z_values z_kinds z_news y1 y2 y4 v5 ev5) cw148 hs2 0 9 rfl rfl rfl hl.1 rfl (Nat.le_of_ble_eq_true rfl) dX9_run_74 ⟨Nat.zero_le _, Nat.zero_le _⟩ ?_
        refine lv_imul hx hb dX9_run_77 ?_
        refine lv_iadd hx hb dX9_run_78 ?_
        refine lv_istore_n (lv' := [(3, .int (y3 + ((v4 + 1) * v5))), (0, .ref a_z), (1, .int y1), (2, .int y2), (4, .int y4)]) hx hb dX9_run_79 rfl hl (by decide) rfl (fun ls hl => ?_)
        refine lv_iinc (v := y4 + 1) (lv' := [(4, .int (y4 + 1)), (3, .int (y3 + ((v4 + 1) * v5))), (0, .ref a_z), (1, .int y1), (2, .int y2)]) hx hb dX9_run_80 hl (k := 4) rfl rfl (by decide) rfl (fun ls hl => ?_)
        refine lv_goto (tgt := 46) hx hb dX9_run_83 (by decide) ?_
        exact ih H locs z_counter z_held z_values y1 y2 (y3 + ((v4 + 1) * v5)) (y4 + 1) h hP hD hS ls (lv_sub (l' := [(0, .ref a_z), (1, .int y1), (2, .int y2), (3, .int (y3 + ((v4 + 1) * v5))), (4, .int (y4 + 1))]) hl [2, 3, 4, 1, 0] rfl)
  have F18 : ∀ (H : Heap) (locs : List Loc) (z_counter : Int32) (z_held : Nat → Int32) (z_values : Nat → Int32) (y1 : Int32) (s0 : Int32), jX9_run_18 z_s z_counter z_held z_values y1 s0 = some (r, r_z_counter, r_z_held, r_z_values) → va_P D vwCl (W_z cI cM a_z a_z_s a_z_past a_z_keeps a_z_entryKey a_z_entryDefault a_z_held a_z_values a_z_kinds a_z_news z_s z_past z_pasts z_changed z_entries z_keeps z_entryKey z_entryDefault z_counter z_held z_values z_kinds z_news) H → va_D (fun q => q ∈ (w0).map (·.1)) (W_z cI cM a_z a_z_s a_z_past a_z_keeps a_z_entryKey a_z_entryDefault a_z_held a_z_values a_z_kinds a_z_news z_s z_past z_pasts z_changed z_entries z_keeps z_entryKey z_entryDefault z_counter z_held z_values z_kinds z_news) → va_S (fun q => q ∈ (w0).map (·.1)) s.heap H locs → ∀ ls : Array Slot, lv_has ls 5 [(0, .ref a_z), (1, .int y1)] → WI p l e rmX9_run s m av below meth c D w0 w1 (some (.int r)) H locs 18 ls [.int s0] := by
    intro H locs z_counter z_held z_values y1 s0 h hP hD hS ls hl
    unfold jX9_run_18 at h
    refine lv_istore_n (lv' := [(2, .int s0), (0, .ref a_z), (1, .int y1)]) hx hb dX9_run_18 rfl hl (by decide) rfl (fun ls hl => ?_)
    refine lv_iload_n hx hb dX9_run_19 rfl (lv_at hl 0 rfl) ?_
    refine lv_bipush (v := (-9)) hx hb dX9_run_20 (by decide) ?_
    refine lv_icmp_ne (tgt := 27) hx hb dX9_run_22 (by decide) (fun c1 => ?_) (fun c1 => ?_)
    · have h := ifn h c1
      refine lv_aload_n hx hb dX9_run_27 rfl (lv_at hl 1 rfl) ?_
      refine lv_iload_n hx hb dX9_run_28 rfl (lv_at hl 2 rfl) ?_
      obtain ⟨g2, g3, g4, eg2, h⟩ := bn3_some h
      refine kVI (As := [.int y1]) (rest := []) (st1 := []) SS hKK (qX9_evaluateAll l D cI cM a_z a_z_s a_z_past a_z_keeps a_z_entryKey a_z_entryDefault a_z_held a_z_values a_z_kinds a_z_news z_s z_past z_pasts z_changed z_entries z_keeps z_entryKey z_entryDefault z_counter z_held z_values z_kinds z_news y1 g2 g3 g4 eg2) cw144 hP hD hS [0, 1, 2, 3, 4, 5, 6, 7, 8, 9] rfl rfl rfl rfl 0 9 rfl rfl rfl hl.1 rfl (Nat.le_of_ble_eq_true rfl) dX9_run_29 ⟨Nat.zero_le _, Nat.zero_le _⟩ rfl (fun H locs hP hD hS => ?_)
      have hP : va_P D vwCl (W_z cI cM a_z a_z_s a_z_past a_z_keeps a_z_entryKey a_z_entryDefault a_z_held a_z_values a_z_kinds a_z_news z_s z_past z_pasts z_changed z_entries z_keeps z_entryKey z_entryDefault g2 g3 g4 z_kinds z_news) H := hP
      have hD : va_D _ (W_z cI cM a_z a_z_s a_z_past a_z_keeps a_z_entryKey a_z_entryDefault a_z_held a_z_values a_z_kinds a_z_news z_s z_past z_pasts z_changed z_entries z_keeps z_entryKey z_entryDefault g2 g3 g4 z_kinds z_news) := hD
      refine lv_sipush (v := 1000) hx hb dX9_run_32 (by decide) ?_
      refine lv_aload_n hx hb dX9_run_35 rfl (lv_at hl 1 rfl) ?_
      refine lv_iload_n hx hb dX9_run_36 rfl (lv_at hl 0 rfl) ?_
      refine lv_iconst (v := 0) hx hb dX9_run_37 (by decide) ?_
      obtain ⟨v5, ev5, h⟩ := bn_some h
      have hs6 : va_P D vwCl (W_z cI cM a_z a_z_s a_z_past a_z_keeps a_z_entryKey a_z_entryDefault a_z_held a_z_values a_z_kinds a_z_news z_s z_past z_pasts z_changed z_entries z_keeps z_entryKey z_entryDefault g2 g3 g4 z_kinds z_news) _ := hP.sub (ws' := W_z cI cM a_z a_z_s a_z_past a_z_keeps a_z_entryKey a_z_entryDefault a_z_held a_z_values a_z_kinds a_z_news z_s z_past z_pasts z_changed z_entries z_keeps z_entryKey z_entryDefault g2 g3 g4 z_kinds z_news) [0, 1, 2, 3, 4, 5, 6, 7, 8, 9] rfl
      refine kV (As := [.int s0, .int 0]) (rest := [.int 1000]) SS hKK (qX9_of l D cI cM a_z a_z_s a_z_past a_z_keeps a_z_entryKey a_z_entryDefault a_z_held a_z_values a_z_kinds a_z_news z_s z_past z_pasts z_changed z_entries z_keeps z_entryKey z_entryDefault g2 g3 g4 z_kinds z_news s0 0 v5 ev5) cw63 hs6 0 9 rfl rfl rfl hl.1 rfl (Nat.le_of_ble_eq_true rfl) dX9_run_38 ⟨Nat.zero_le _, Nat.zero_le _⟩ ?_
      refine lv_imul hx hb dX9_run_41 ?_
      refine lv_istore_n (lv' := [(3, .int (1000 * v5)), (2, .int s0), (0, .ref a_z), (1, .int y1)]) hx hb dX9_run_42 rfl hl (by decide) rfl (fun ls hl => ?_)
      refine lv_iconst (v := 0) hx hb dX9_run_43 (by decide) ?_
      refine lv_istore (lv' := [(4, .int 0), (3, .int (1000 * v5)), (2, .int s0), (0, .ref a_z), (1, .int y1)]) hx hb dX9_run_44 hl (by decide) rfl (fun ls hl => ?_)
      exact F46 5000 H locs g2 g3 g4 y1 s0 (1000 * v5) 0 h hP hD hS ls (lv_sub (l' := [(0, .ref a_z), (1, .int y1), (2, .int s0), (3, .int (1000 * v5)), (4, .int 0)]) hl [3, 4, 2, 1, 0] rfl)
    · have h := ifp h c1
      refine lv_iconst (v := 0) hx hb dX9_run_25 (by decide) ?_
      simp only [Option.some.injEq, Prod.mk.injEq] at h
      obtain ⟨e0, e1, e2, e3⟩ := h
      exact kRetI hx hb hr hlk e0 (by rw [← hw1, ← e1, ← e2, ← e3]; exact hP) hS dX9_run_26
  unfold fX9_run at h
  refine lv_aload_n hx hb dX9_run_0 rfl (lv_at hl 0 rfl) ?_
  refine lv_iload_n hx hb dX9_run_1 rfl (lv_at hl 1 rfl) ?_
  obtain ⟨v1, ev1, h⟩ := bn_some h
  have hs2 : va_P D vwCl (W_z cI cM a_z a_z_s a_z_past a_z_keeps a_z_entryKey a_z_entryDefault a_z_held a_z_values a_z_kinds a_z_news z_s z_past z_pasts z_changed z_entries z_keeps z_entryKey z_entryDefault z_counter z_held z_values z_kinds z_news) _ := hP.sub (ws' := W_z cI cM a_z a_z_s a_z_past a_z_keeps a_z_entryKey a_z_entryDefault a_z_held a_z_values a_z_kinds a_z_news z_s z_past z_pasts z_changed z_entries z_keeps z_entryKey z_entryDefault z_counter z_held z_values z_kinds z_news) [0, 1, 2, 3, 4, 5, 6, 7, 8, 9] rfl
  refine kV (As := [.int x1]) (rest := []) SS hKK (qX9_isCall l D cI cM a_z a_z_s a_z_past a_z_keeps a_z_entryKey a_z_entryDefault a_z_held a_z_values a_z_kinds a_z_news z_s z_past z_pasts z_changed z_entries z_keeps z_entryKey z_entryDefault z_counter z_held z_values z_kinds z_news x1 v1 ev1) cw117 hs2 0 9 rfl rfl rfl hl.1 rfl (Nat.le_of_ble_eq_true rfl) dX9_run_2 ⟨Nat.zero_le _, Nat.zero_le _⟩ ?_
  refine lv_if_eq (tgt := 16) hx hb dX9_run_5 (by decide) (fun c3 => ?_) (fun c3 => ?_)
  · have h := ifp h c3
    refine lv_bipush (v := (-9)) hx hb dX9_run_16 (by decide) ?_
    exact F18 s.heap [] z_counter z_held z_values x1 (-9) h hP hD hS ls (lv_sub (l' := [(0, .ref a_z), (1, .int x1)]) hl [0, 1] rfl)
  · have h := ifn h c3
    refine lv_aload_n hx hb dX9_run_8 rfl (lv_at hl 0 rfl) ?_
    refine lv_iload_n hx hb dX9_run_9 rfl (lv_at hl 1 rfl) ?_
    obtain ⟨v4, ev4, h⟩ := bn_some h
    refine kV (As := [.int x1]) (rest := []) SS hKK (qX9_dispatched l D cI cM a_z a_z_s a_z_past a_z_keeps a_z_entryKey a_z_entryDefault a_z_held a_z_values a_z_kinds a_z_news z_s z_past z_pasts z_changed z_entries z_keeps z_entryKey z_entryDefault z_counter z_held z_values z_kinds z_news x1 v4 ev4) cw141 hs2 0 9 rfl rfl rfl hl.1 rfl (Nat.le_of_ble_eq_true rfl) dX9_run_10 ⟨Nat.zero_le _, Nat.zero_le _⟩ ?_
    refine lv_goto (tgt := 18) hx hb dX9_run_13 (by decide) ?_
    exact F18 s.heap [] z_counter z_held z_values x1 v4 h hP hD hS ls (lv_sub (l' := [(0, .ref a_z), (1, .int x1)]) hl [0, 1] rfl)
set_option maxHeartbeats 8000000 in
set_option maxRecDepth 100000 in
theorem qX9_ticks (l : Launch) (D : va_G) (cI cM : ClassId) (a_z a_z_s a_z_past a_z_keeps a_z_entryKey a_z_entryDefault a_z_held a_z_values a_z_kinds a_z_news : Nat) (z_s : Nat → Int32) (z_past : Nat → Int32) (z_pasts : Int32) (z_changed : Int32) (z_entries : Int32) (z_keeps : Nat → Int32) (z_entryKey : Nat → Int32) (z_entryDefault : Nat → Int32) (z_counter : Int32) (z_held : Nat → Int32) (z_values : Nat → Int32) (z_kinds : Nat → Int32) (z_news : Nat → Int32) (x1 : Int32) (r : Int32) (r_z_counter : Int32) (r_z_held : Nat → Int32) (r_z_values : Nat → Int32) (h : fX9_ticks z_s z_counter z_held z_values x1 = some (r, r_z_counter, r_z_held, r_z_values)) : IM l yX9_ticks wsX9_ticks rmX9_ticks D cI cM [.ref a_z, .int x1] (W_z cI cM a_z a_z_s a_z_past a_z_keeps a_z_entryKey a_z_entryDefault a_z_held a_z_values a_z_kinds a_z_news z_s z_past z_pasts z_changed z_entries z_keeps z_entryKey z_entryDefault z_counter z_held z_values z_kinds z_news) (W_z cI cM a_z a_z_s a_z_past a_z_keeps a_z_entryKey a_z_entryDefault a_z_held a_z_values a_z_kinds a_z_news z_s z_past z_pasts z_changed z_entries z_keeps z_entryKey z_entryDefault r_z_counter r_z_held r_z_values z_kinds z_news) (some (.int r)) := by
  refine IM.of (cc := cX9_ticks) (maxL := 2) (ret := (some .int)) (by decide) rfl (Nat.le_of_ble_eq_true rfl) ?_
  intro p e s m below meth c ls hx hb hr hml hown hts hlk hKK hP hD hS hl
  have hown : s.vm.findClass RX9 = some m.cls := hown
  have hl : lv_has ls 2 [(0, .ref a_z), (1, .int x1)] := hl
  generalize hav : ([.ref a_z, .int x1] : List Value) = av at hts ⊢
  generalize hw1 : W_z cI cM a_z a_z_s a_z_past a_z_keeps a_z_entryKey a_z_entryDefault a_z_held a_z_values a_z_kinds a_z_news z_s z_past z_pasts z_changed z_entries z_keeps z_entryKey z_entryDefault r_z_counter r_z_held r_z_values z_kinds z_news = w1
  generalize hw0 : W_z cI cM a_z a_z_s a_z_past a_z_keeps a_z_entryKey a_z_entryDefault a_z_held a_z_values a_z_kinds a_z_news z_s z_past z_pasts z_changed z_entries z_keeps z_entryKey z_entryDefault z_counter z_held z_values z_kinds z_news = w0 at hD hS ⊢
  have hP : va_P D vwCl (W_z cI cM a_z a_z_s a_z_past a_z_keeps a_z_entryKey a_z_entryDefault a_z_held a_z_values a_z_kinds a_z_news z_s z_past z_pasts z_changed z_entries z_keeps z_entryKey z_entryDefault z_counter z_held z_values z_kinds z_news) s.heap := hP
  have hD : va_D (fun q => q ∈ w0.map (·.1)) (W_z cI cM a_z a_z_s a_z_past a_z_keeps a_z_entryKey a_z_entryDefault a_z_held a_z_values a_z_kinds a_z_news z_s z_past z_pasts z_changed z_entries z_keeps z_entryKey z_entryDefault z_counter z_held z_values z_kinds z_news) := by rw [hw0]; exact hD
  have SS : CallFix p m c cX9_ticks 2 s av.toArray wsX9_ticks RX9 := ⟨hx, hb, hml, hown, hts⟩
  have hinX9 : ∀ w ∈ u_ws RX9 TX9 13, w ∈ wsX9_ticks := by decide +kernel
  have lk135 := hts (.fieldLink RX9 135 "SignatureChangerModel" "counter" "I") (List.mem_of_getElem? (i := 1) rfl)
  have cw117 : CallW rmX9_ticks s av.toArray RX9 RX9 117 yX9_isCall cX9_isCall 2 (some .boolean) wsX9_isCall rmX9_isCall 0 0 1 := cwV 1 hts gX9_ticks_X9_isCall rfl rfl rfl (by decide +kernel) ⟨Nat.le_of_ble_eq_true rfl, Nat.le_of_ble_eq_true rfl⟩
  have cw144 : CallW rmX9_ticks s av.toArray RX9 RX9 144 yX9_evaluateAll cX9_evaluateAll 3 none wsX9_evaluateAll rmX9_evaluateAll 0 0 1 := cwV 1 hts gX9_ticks_X9_evaluateAll rfl rfl rfl (by decide +kernel) ⟨Nat.le_of_ble_eq_true rfl, Nat.le_of_ble_eq_true rfl⟩
  unfold fX9_ticks at h
  refine lv_aload_n hx hb dX9_ticks_0 rfl (lv_at hl 0 rfl) ?_
  refine lv_iload_n hx hb dX9_ticks_1 rfl (lv_at hl 1 rfl) ?_
  obtain ⟨v1, ev1, h⟩ := bn_some h
  have hs2 : va_P D vwCl (W_z cI cM a_z a_z_s a_z_past a_z_keeps a_z_entryKey a_z_entryDefault a_z_held a_z_values a_z_kinds a_z_news z_s z_past z_pasts z_changed z_entries z_keeps z_entryKey z_entryDefault z_counter z_held z_values z_kinds z_news) _ := hP.sub (ws' := W_z cI cM a_z a_z_s a_z_past a_z_keeps a_z_entryKey a_z_entryDefault a_z_held a_z_values a_z_kinds a_z_news z_s z_past z_pasts z_changed z_entries z_keeps z_entryKey z_entryDefault z_counter z_held z_values z_kinds z_news) [0, 1, 2, 3, 4, 5, 6, 7, 8, 9] rfl
  refine kV (As := [.int x1]) (rest := []) SS hKK (qX9_isCall l D cI cM a_z a_z_s a_z_past a_z_keeps a_z_entryKey a_z_entryDefault a_z_held a_z_values a_z_kinds a_z_news z_s z_past z_pasts z_changed z_entries z_keeps z_entryKey z_entryDefault z_counter z_held z_values z_kinds z_news x1 v1 ev1) cw117 hs2 0 9 rfl rfl rfl hl.1 rfl (Nat.le_of_ble_eq_true rfl) dX9_ticks_2 ⟨Nat.zero_le _, Nat.zero_le _⟩ ?_
  refine lv_if_ne (tgt := 10) hx hb dX9_ticks_5 (by decide) (fun c3 => ?_) (fun c3 => ?_)
  · have h := ifn h c3
    refine lv_aload_n hx hb dX9_ticks_10 rfl (lv_at hl 0 rfl) ?_
    refine lv_iload_n hx hb dX9_ticks_11 rfl (lv_at hl 1 rfl) ?_
    obtain ⟨g4, g5, g6, eg4, h⟩ := bn3_some h
    refine kVI (As := [.int x1]) (rest := []) (st1 := []) SS hKK (qX9_evaluateAll l D cI cM a_z a_z_s a_z_past a_z_keeps a_z_entryKey a_z_entryDefault a_z_held a_z_values a_z_kinds a_z_news z_s z_past z_pasts z_changed z_entries z_keeps z_entryKey z_entryDefault z_counter z_held z_values z_kinds z_news x1 g4 g5 g6 eg4) cw144 hP hD hS [0, 1, 2, 3, 4, 5, 6, 7, 8, 9] rfl rfl rfl rfl 0 9 rfl rfl rfl hl.1 rfl (Nat.le_of_ble_eq_true rfl) dX9_ticks_12 ⟨Nat.zero_le _, Nat.zero_le _⟩ rfl (fun H locs hP hD hS => ?_)
    have hP : va_P D vwCl (W_z cI cM a_z a_z_s a_z_past a_z_keeps a_z_entryKey a_z_entryDefault a_z_held a_z_values a_z_kinds a_z_news z_s z_past z_pasts z_changed z_entries z_keeps z_entryKey z_entryDefault g4 g5 g6 z_kinds z_news) H := hP
    have hD : va_D _ (W_z cI cM a_z a_z_s a_z_past a_z_keeps a_z_entryKey a_z_entryDefault a_z_held a_z_values a_z_kinds a_z_news z_s z_past z_pasts z_changed z_entries z_keeps z_entryKey z_entryDefault g4 g5 g6 z_kinds z_news) := hD
    refine lv_aload_n hx hb dX9_ticks_15 rfl (lv_at hl 0 rfl) ?_
    refine va_get (D := D) (ci := 9) (v := .int g4) (C := RX9) (T := TX9) (N := 13) hx hb hts hinX9 hown hKK.1 hP 0 rfl rfl 8 (by decide) lk135 (fun _ h9 => h9) rfl dX9_ticks_16 ?_
    simp only [Option.some.injEq, Prod.mk.injEq] at h
    obtain ⟨e0, e1, e2, e3⟩ := h
    exact kRetI hx hb hr hlk e0 (by rw [← hw1, ← e1, ← e2, ← e3]; exact hP) hS dX9_ticks_19
  · have h := ifp h c3
    refine lv_iconst (v := (-1)) hx hb dX9_ticks_8 (by decide) ?_
    simp only [Option.some.injEq, Prod.mk.injEq] at h
    obtain ⟨e0, e1, e2, e3⟩ := h
    exact kRetI hx hb hr hlk e0 (by rw [← hw1, ← e1, ← e2, ← e3]; exact hP) hS dX9_ticks_9
set_option maxHeartbeats 8000000 in
set_option maxRecDepth 100000 in
theorem qX9_argumentCount (l : Launch) (D : va_G) (cI cM : ClassId) (a_z a_z_s a_z_past a_z_keeps a_z_entryKey a_z_entryDefault a_z_held a_z_values a_z_kinds a_z_news : Nat) (z_s : Nat → Int32) (z_past : Nat → Int32) (z_pasts : Int32) (z_changed : Int32) (z_entries : Int32) (z_keeps : Nat → Int32) (z_entryKey : Nat → Int32) (z_entryDefault : Nat → Int32) (z_counter : Int32) (z_held : Nat → Int32) (z_values : Nat → Int32) (z_kinds : Nat → Int32) (z_news : Nat → Int32) (x1 : Int32) (r : Int32) (h : fX9_argumentCount z_s x1 = some r) : PM l yX9_argumentCount wsX9_argumentCount rmX9_argumentCount D cI cM [.ref a_z, .int x1] (W_z cI cM a_z a_z_s a_z_past a_z_keeps a_z_entryKey a_z_entryDefault a_z_held a_z_values a_z_kinds a_z_news z_s z_past z_pasts z_changed z_entries z_keeps z_entryKey z_entryDefault z_counter z_held z_values z_kinds z_news) r := by
  refine PM.of (cc := cX9_argumentCount) (maxL := 2) (ret := (some .int)) (by decide) rfl (Nat.le_of_ble_eq_true rfl) ?_
  intro p e s m below meth c ls hx hb hr hml hown hts hlk hP hKK hl
  have hown : s.vm.findClass RX9 = some m.cls := hown
  have hl : lv_has ls 2 [(0, .ref a_z), (1, .int x1)] := hl
  generalize hav : ([.ref a_z, .int x1] : List Value) = av at hts ⊢
  have SS : CallFix p m c cX9_argumentCount 2 s av.toArray wsX9_argumentCount RX9 := ⟨hx, hb, hml, hown, hts⟩
  have hinX9 : ∀ w ∈ u_ws RX9 TX9 13, w ∈ wsX9_argumentCount := by decide +kernel
  have lk7 := hts (.fieldLink RX9 7 "SignatureChangerModel" "s" "[I") (List.mem_of_getElem? (i := 1) rfl)
  have cw111 : CallW rmX9_argumentCount s av.toArray RX9 RX9 111 yX9_at cX9_at 3 (some .int) wsX9_at rmX9_at 0 0 2 := cwV 2 hts gX9_argumentCount_X9_at rfl rfl rfl (by decide +kernel) ⟨Nat.le_of_ble_eq_true rfl, Nat.le_of_ble_eq_true rfl⟩
  have cw117 : CallW rmX9_argumentCount s av.toArray RX9 RX9 117 yX9_isCall cX9_isCall 2 (some .boolean) wsX9_isCall rmX9_isCall 0 0 1 := cwV 1 hts gX9_argumentCount_X9_isCall rfl rfl rfl (by decide +kernel) ⟨Nat.le_of_ble_eq_true rfl, Nat.le_of_ble_eq_true rfl⟩
  unfold fX9_argumentCount at h
  refine lv_aload_n hx hb dX9_argumentCount_0 rfl (lv_at hl 0 rfl) ?_
  refine lv_iload_n hx hb dX9_argumentCount_1 rfl (lv_at hl 1 rfl) ?_
  obtain ⟨v1, ev1, h⟩ := bn_some h
  have hs2 : va_P D vwCl (W_z cI cM a_z a_z_s a_z_past a_z_keeps a_z_entryKey a_z_entryDefault a_z_held a_z_values a_z_kinds a_z_news z_s z_past z_pasts z_changed z_entries z_keeps z_entryKey z_entryDefault z_counter z_held z_values z_kinds z_news) _ := hP.sub (ws' := W_z cI cM a_z a_z_s a_z_past a_z_keeps a_z_entryKey a_z_entryDefault a_z_held a_z_values a_z_kinds a_z_news z_s z_past z_pasts z_changed z_entries z_keeps z_entryKey z_entryDefault z_counter z_held z_values z_kinds z_news) [0, 1, 2, 3, 4, 5, 6, 7, 8, 9] rfl
  refine kV (As := [.int x1]) (rest := []) SS hKK (qX9_isCall l D cI cM a_z a_z_s a_z_past a_z_keeps a_z_entryKey a_z_entryDefault a_z_held a_z_values a_z_kinds a_z_news z_s z_past z_pasts z_changed z_entries z_keeps z_entryKey z_entryDefault z_counter z_held z_values z_kinds z_news x1 v1 ev1) cw117 hs2 0 9 rfl rfl rfl hl.1 rfl (Nat.le_of_ble_eq_true rfl) dX9_argumentCount_2 ⟨Nat.zero_le _, Nat.zero_le _⟩ ?_
  refine lv_if_eq (tgt := 22) hx hb dX9_argumentCount_5 (by decide) (fun c3 => ?_) (fun c3 => ?_)
  · have h := ifp h c3
    refine lv_iconst (v := (-1)) hx hb dX9_argumentCount_22 (by decide) ?_
    exact kRet hx hb hr hlk (Option.some.inj h) dX9_argumentCount_23
  · have h := ifn h c3
    refine lv_aload_n hx hb dX9_argumentCount_8 rfl (lv_at hl 0 rfl) ?_
    refine va_get (D := D) (ci := 9) (v := .ref a_z_s) (C := RX9) (T := TX9) (N := 13) hx hb hts hinX9 hown hKK.1 hP 0 rfl rfl 0 (by decide) lk7 (fun _ h9 => h9) rfl dX9_argumentCount_9 ?_
    refine lv_aload_n hx hb dX9_argumentCount_12 rfl (lv_at hl 0 rfl) ?_
    refine lv_iload_n hx hb dX9_argumentCount_13 rfl (lv_at hl 1 rfl) ?_
    refine lv_iconst (v := 4) hx hb dX9_argumentCount_14 (by decide) ?_
    obtain ⟨v4, ev4, h⟩ := bn_some h
    refine kV (As := [.int x1, .int 4]) (rest := [.ref a_z_s]) SS hKK (qX9_at l D cI cM a_z a_z_s a_z_past a_z_keeps a_z_entryKey a_z_entryDefault a_z_held a_z_values a_z_kinds a_z_news z_s z_past z_pasts z_changed z_entries z_keeps z_entryKey z_entryDefault z_counter z_held z_values z_kinds z_news x1 4 v4 ev4) cw111 hs2 0 9 rfl rfl rfl hl.1 rfl (Nat.le_of_ble_eq_true rfl) dX9_argumentCount_15 ⟨Nat.zero_le _, Nat.zero_le _⟩ ?_
    obtain ⟨v5, iv5, ev5, h⟩ := rd_some h
    refine kAld hx hb hKK hP 1 rfl iv5 ev5 dX9_argumentCount_18 ?_
    refine lv_goto (tgt := 23) hx hb dX9_argumentCount_19 (by decide) ?_
    exact kRet hx hb hr hlk (Option.some.inj h) dX9_argumentCount_23
set_option maxHeartbeats 8000000 in
set_option maxRecDepth 100000 in
theorem qX9_argumentKind (l : Launch) (D : va_G) (cI cM : ClassId) (a_z a_z_s a_z_past a_z_keeps a_z_entryKey a_z_entryDefault a_z_held a_z_values a_z_kinds a_z_news : Nat) (z_s : Nat → Int32) (z_past : Nat → Int32) (z_pasts : Int32) (z_changed : Int32) (z_entries : Int32) (z_keeps : Nat → Int32) (z_entryKey : Nat → Int32) (z_entryDefault : Nat → Int32) (z_counter : Int32) (z_held : Nat → Int32) (z_values : Nat → Int32) (z_kinds : Nat → Int32) (z_news : Nat → Int32) (x1 : Int32) (x2 : Int32) (r : Int32) (h : fX9_argumentKind z_s x1 x2 = some r) : PM l yX9_argumentKind wsX9_argumentKind rmX9_argumentKind D cI cM [.ref a_z, .int x1, .int x2] (W_z cI cM a_z a_z_s a_z_past a_z_keeps a_z_entryKey a_z_entryDefault a_z_held a_z_values a_z_kinds a_z_news z_s z_past z_pasts z_changed z_entries z_keeps z_entryKey z_entryDefault z_counter z_held z_values z_kinds z_news) r := by
  refine PM.of (cc := cX9_argumentKind) (maxL := 3) (ret := (some .int)) (by decide) rfl (Nat.le_of_ble_eq_true rfl) ?_
  intro p e s m below meth c ls hx hb hr hml hown hts hlk hP hKK hl
  have hown : s.vm.findClass RX9 = some m.cls := hown
  have hl : lv_has ls 3 [(0, .ref a_z), (1, .int x1), (2, .int x2)] := hl
  generalize hav : ([.ref a_z, .int x1, .int x2] : List Value) = av at hts ⊢
  have SS : CallFix p m c cX9_argumentKind 3 s av.toArray wsX9_argumentKind RX9 := ⟨hx, hb, hml, hown, hts⟩
  have hinX9 : ∀ w ∈ u_ws RX9 TX9 13, w ∈ wsX9_argumentKind := by decide +kernel
  have lk7 := hts (.fieldLink RX9 7 "SignatureChangerModel" "s" "[I") (List.mem_of_getElem? (i := 1) rfl)
  have cw111 : CallW rmX9_argumentKind s av.toArray RX9 RX9 111 yX9_at cX9_at 3 (some .int) wsX9_at rmX9_at 0 0 2 := cwV 2 hts gX9_argumentKind_X9_at rfl rfl rfl (by decide +kernel) ⟨Nat.le_of_ble_eq_true rfl, Nat.le_of_ble_eq_true rfl⟩
  have cw120 : CallW rmX9_argumentKind s av.toArray RX9 RX9 120 yX9_isArgument cX9_isArgument 3 (some .boolean) wsX9_isArgument rmX9_isArgument 0 0 2 := cwV 2 hts gX9_argumentKind_X9_isArgument rfl rfl rfl (by decide +kernel) ⟨Nat.le_of_ble_eq_true rfl, Nat.le_of_ble_eq_true rfl⟩
  unfold fX9_argumentKind at h
  refine lv_aload_n hx hb dX9_argumentKind_0 rfl (lv_at hl 0 rfl) ?_
  refine lv_iload_n hx hb dX9_argumentKind_1 rfl (lv_at hl 1 rfl) ?_
  refine lv_iload_n hx hb dX9_argumentKind_2 rfl (lv_at hl 2 rfl) ?_
  obtain ⟨v1, ev1, h⟩ := bn_some h
  have hs2 : va_P D vwCl (W_z cI cM a_z a_z_s a_z_past a_z_keeps a_z_entryKey a_z_entryDefault a_z_held a_z_values a_z_kinds a_z_news z_s z_past z_pasts z_changed z_entries z_keeps z_entryKey z_entryDefault z_counter z_held z_values z_kinds z_news) _ := hP.sub (ws' := W_z cI cM a_z a_z_s a_z_past a_z_keeps a_z_entryKey a_z_entryDefault a_z_held a_z_values a_z_kinds a_z_news z_s z_past z_pasts z_changed z_entries z_keeps z_entryKey z_entryDefault z_counter z_held z_values z_kinds z_news) [0, 1, 2, 3, 4, 5, 6, 7, 8, 9] rfl
  refine kV (As := [.int x1, .int x2]) (rest := []) SS hKK (qX9_isArgument l D cI cM a_z a_z_s a_z_past a_z_keeps a_z_entryKey a_z_entryDefault a_z_held a_z_values a_z_kinds a_z_news z_s z_past z_pasts z_changed z_entries z_keeps z_entryKey z_entryDefault z_counter z_held z_values z_kinds z_news x1 x2 v1 ev1) cw120 hs2 0 9 rfl rfl rfl hl.1 rfl (Nat.le_of_ble_eq_true rfl) dX9_argumentKind_3 ⟨Nat.zero_le _, Nat.zero_le _⟩ ?_
  refine lv_if_eq (tgt := 25) hx hb dX9_argumentKind_6 (by decide) (fun c3 => ?_) (fun c3 => ?_)
  · have h := ifp h c3
    refine lv_iconst (v := (-1)) hx hb dX9_argumentKind_25 (by decide) ?_
    exact kRet hx hb hr hlk (Option.some.inj h) dX9_argumentKind_26
  · have h := ifn h c3
    refine lv_aload_n hx hb dX9_argumentKind_9 rfl (lv_at hl 0 rfl) ?_
    refine va_get (D := D) (ci := 9) (v := .ref a_z_s) (C := RX9) (T := TX9) (N := 13) hx hb hts hinX9 hown hKK.1 hP 0 rfl rfl 0 (by decide) lk7 (fun _ h9 => h9) rfl dX9_argumentKind_10 ?_
    refine lv_aload_n hx hb dX9_argumentKind_13 rfl (lv_at hl 0 rfl) ?_
    refine lv_iload_n hx hb dX9_argumentKind_14 rfl (lv_at hl 1 rfl) ?_
    refine lv_iconst (v := 5) hx hb dX9_argumentKind_15 (by decide) ?_
    refine lv_iload_n hx hb dX9_argumentKind_16 rfl (lv_at hl 2 rfl) ?_
    refine lv_iadd hx hb dX9_argumentKind_17 ?_
    obtain ⟨v4, ev4, h⟩ := bn_some h
    refine kV (As := [.int x1, .int (5 + x2)]) (rest := [.ref a_z_s]) SS hKK (qX9_at l D cI cM a_z a_z_s a_z_past a_z_keeps a_z_entryKey a_z_entryDefault a_z_held a_z_values a_z_kinds a_z_news z_s z_past z_pasts z_changed z_entries z_keeps z_entryKey z_entryDefault z_counter z_held z_values z_kinds z_news x1 (5 + x2) v4 ev4) cw111 hs2 0 9 rfl rfl rfl hl.1 rfl (Nat.le_of_ble_eq_true rfl) dX9_argumentKind_18 ⟨Nat.zero_le _, Nat.zero_le _⟩ ?_
    obtain ⟨v5, iv5, ev5, h⟩ := rd_some h
    refine kAld hx hb hKK hP 1 rfl iv5 ev5 dX9_argumentKind_21 ?_
    refine lv_goto (tgt := 26) hx hb dX9_argumentKind_22 (by decide) ?_
    exact kRet hx hb hr hlk (Option.some.inj h) dX9_argumentKind_26
set_option maxHeartbeats 8000000 in
set_option maxRecDepth 100000 in
theorem qX9_temporaryCount (l : Launch) (D : va_G) (cI cM : ClassId) (a_z a_z_s a_z_past a_z_keeps a_z_entryKey a_z_entryDefault a_z_held a_z_values a_z_kinds a_z_news : Nat) (z_s : Nat → Int32) (z_past : Nat → Int32) (z_pasts : Int32) (z_changed : Int32) (z_entries : Int32) (z_keeps : Nat → Int32) (z_entryKey : Nat → Int32) (z_entryDefault : Nat → Int32) (z_counter : Int32) (z_held : Nat → Int32) (z_values : Nat → Int32) (z_kinds : Nat → Int32) (z_news : Nat → Int32) (x1 : Int32) (r : Int32) (h : fX9_temporaryCount z_s x1 = some r) : PM l yX9_temporaryCount wsX9_temporaryCount rmX9_temporaryCount D cI cM [.ref a_z, .int x1] (W_z cI cM a_z a_z_s a_z_past a_z_keeps a_z_entryKey a_z_entryDefault a_z_held a_z_values a_z_kinds a_z_news z_s z_past z_pasts z_changed z_entries z_keeps z_entryKey z_entryDefault z_counter z_held z_values z_kinds z_news) r := by
  refine PM.of (cc := cX9_temporaryCount) (maxL := 2) (ret := (some .int)) (by decide) rfl (Nat.le_of_ble_eq_true rfl) ?_
  intro p e s m below meth c ls hx hb hr hml hown hts hlk hP hKK hl
  have hown : s.vm.findClass RX9 = some m.cls := hown
  have hl : lv_has ls 2 [(0, .ref a_z), (1, .int x1)] := hl
  generalize hav : ([.ref a_z, .int x1] : List Value) = av at hts ⊢
  have SS : CallFix p m c cX9_temporaryCount 2 s av.toArray wsX9_temporaryCount RX9 := ⟨hx, hb, hml, hown, hts⟩
  have hinX9 : ∀ w ∈ u_ws RX9 TX9 13, w ∈ wsX9_temporaryCount := by decide +kernel
  have lk7 := hts (.fieldLink RX9 7 "SignatureChangerModel" "s" "[I") (List.mem_of_getElem? (i := 1) rfl)
  have cw111 : CallW rmX9_temporaryCount s av.toArray RX9 RX9 111 yX9_at cX9_at 3 (some .int) wsX9_at rmX9_at 0 0 2 := cwV 2 hts gX9_temporaryCount_X9_at rfl rfl rfl (by decide +kernel) ⟨Nat.le_of_ble_eq_true rfl, Nat.le_of_ble_eq_true rfl⟩
  have cw117 : CallW rmX9_temporaryCount s av.toArray RX9 RX9 117 yX9_isCall cX9_isCall 2 (some .boolean) wsX9_isCall rmX9_isCall 0 0 1 := cwV 1 hts gX9_temporaryCount_X9_isCall rfl rfl rfl (by decide +kernel) ⟨Nat.le_of_ble_eq_true rfl, Nat.le_of_ble_eq_true rfl⟩
  unfold fX9_temporaryCount at h
  refine lv_aload_n hx hb dX9_temporaryCount_0 rfl (lv_at hl 0 rfl) ?_
  refine lv_iload_n hx hb dX9_temporaryCount_1 rfl (lv_at hl 1 rfl) ?_
  obtain ⟨v1, ev1, h⟩ := bn_some h
  have hs2 : va_P D vwCl (W_z cI cM a_z a_z_s a_z_past a_z_keeps a_z_entryKey a_z_entryDefault a_z_held a_z_values a_z_kinds a_z_news z_s z_past z_pasts z_changed z_entries z_keeps z_entryKey z_entryDefault z_counter z_held z_values z_kinds z_news) _ := hP.sub (ws' := W_z cI cM a_z a_z_s a_z_past a_z_keeps a_z_entryKey a_z_entryDefault a_z_held a_z_values a_z_kinds a_z_news z_s z_past z_pasts z_changed z_entries z_keeps z_entryKey z_entryDefault z_counter z_held z_values z_kinds z_news) [0, 1, 2, 3, 4, 5, 6, 7, 8, 9] rfl
  refine kV (As := [.int x1]) (rest := []) SS hKK (qX9_isCall l D cI cM a_z a_z_s a_z_past a_z_keeps a_z_entryKey a_z_entryDefault a_z_held a_z_values a_z_kinds a_z_news z_s z_past z_pasts z_changed z_entries z_keeps z_entryKey z_entryDefault z_counter z_held z_values z_kinds z_news x1 v1 ev1) cw117 hs2 0 9 rfl rfl rfl hl.1 rfl (Nat.le_of_ble_eq_true rfl) dX9_temporaryCount_2 ⟨Nat.zero_le _, Nat.zero_le _⟩ ?_
  refine lv_if_eq (tgt := 23) hx hb dX9_temporaryCount_5 (by decide) (fun c3 => ?_) (fun c3 => ?_)
  · have h := ifp h c3
    refine lv_iconst (v := (-1)) hx hb dX9_temporaryCount_23 (by decide) ?_
    exact kRet hx hb hr hlk (Option.some.inj h) dX9_temporaryCount_24
  · have h := ifn h c3
    refine lv_aload_n hx hb dX9_temporaryCount_8 rfl (lv_at hl 0 rfl) ?_
    refine va_get (D := D) (ci := 9) (v := .ref a_z_s) (C := RX9) (T := TX9) (N := 13) hx hb hts hinX9 hown hKK.1 hP 0 rfl rfl 0 (by decide) lk7 (fun _ h9 => h9) rfl dX9_temporaryCount_9 ?_
    refine lv_aload_n hx hb dX9_temporaryCount_12 rfl (lv_at hl 0 rfl) ?_
    refine lv_iload_n hx hb dX9_temporaryCount_13 rfl (lv_at hl 1 rfl) ?_
    refine lv_bipush (v := 20) hx hb dX9_temporaryCount_14 (by decide) ?_
    obtain ⟨v4, ev4, h⟩ := bn_some h
    refine kV (As := [.int x1, .int 20]) (rest := [.ref a_z_s]) SS hKK (qX9_at l D cI cM a_z a_z_s a_z_past a_z_keeps a_z_entryKey a_z_entryDefault a_z_held a_z_values a_z_kinds a_z_news z_s z_past z_pasts z_changed z_entries z_keeps z_entryKey z_entryDefault z_counter z_held z_values z_kinds z_news x1 20 v4 ev4) cw111 hs2 0 9 rfl rfl rfl hl.1 rfl (Nat.le_of_ble_eq_true rfl) dX9_temporaryCount_16 ⟨Nat.zero_le _, Nat.zero_le _⟩ ?_
    obtain ⟨v5, iv5, ev5, h⟩ := rd_some h
    refine kAld hx hb hKK hP 1 rfl iv5 ev5 dX9_temporaryCount_19 ?_
    refine lv_goto (tgt := 24) hx hb dX9_temporaryCount_20 (by decide) ?_
    exact kRet hx hb hr hlk (Option.some.inj h) dX9_temporaryCount_24
set_option maxHeartbeats 8000000 in
set_option maxRecDepth 100000 in
theorem qX9_ones (l : Launch) (D : va_G) (cI cM : ClassId) (x0 : Int32) (r : Int32) (h : fX9_ones x0 = some r) : PM l yX9_ones wsX9_ones rmX9_ones D cI cM [.int x0] ([]) r := by
  refine PM.of (cc := cX9_ones) (maxL := 3) (ret := (some .int)) (by decide) rfl (Nat.le_of_ble_eq_true rfl) ?_
  intro p e s m below meth c ls hx hb hr hml hown hts hlk hP hKK hl
  have hown : s.vm.findClass RX9 = some m.cls := hown
  have hl : lv_has ls 3 [(0, .int x0)] := hl
  generalize hav : ([.int x0] : List Value) = av at hts ⊢
  have SS : CallFix p m c cX9_ones 3 s av.toArray wsX9_ones RX9 := ⟨hx, hb, hml, hown, hts⟩
  have F4 : ∀ (n : Nat) (y0 : Int32) (y1 : Int32) (y2 : Int32), lX9_ones_4  n y0 y1 y2 = some r → ∀ ls : Array Slot, lv_has ls 3 [(0, .int y0), (1, .int y1), (2, .int y2)] → WP p l e rmX9_ones s m av below meth c r 4 ls [] := by
    intro n
    induction n with
    | zero => intro y0 y1 y2 h; exact no_some h
    | succ n ih =>
      intro y0 y1 y2 h ls hl
      rw [lX9_ones_4_s] at h
      refine lv_iload_n hx hb dX9_ones_4 rfl (lv_at hl 2 rfl) ?_
      refine lv_bipush (v := 16) hx hb dX9_ones_5 (by decide) ?_
      refine lv_icmp_ge (tgt := 24) hx hb dX9_ones_7 (by decide) (fun c1 => ?_) (fun c1 => ?_)
      · have h := ifp h c1
        refine lv_iload_n hx hb dX9_ones_24 rfl (lv_at hl 1 rfl) ?_
        exact kRet hx hb hr hlk (Option.some.inj h) dX9_ones_25
      · have h := ifn h c1
        refine lv_iload_n hx hb dX9_ones_10 rfl (lv_at hl 1 rfl) ?_
        refine lv_iload_n hx hb dX9_ones_11 rfl (lv_at hl 0 rfl) ?_
        refine lv_iload_n hx hb dX9_ones_12 rfl (lv_at hl 2 rfl) ?_
        refine lv_ishr hx hb dX9_ones_13 ?_
        refine lv_iconst (v := 1) hx hb dX9_ones_14 (by decide) ?_
        refine lv_iand hx hb dX9_ones_15 ?_
        refine lv_iadd hx hb dX9_ones_16 ?_
        refine lv_istore_n (lv' := [(1, .int (y1 + ((y0 >>> (y2 &&& 31)) &&& 1))), (0, .int y0), (2, .int y2)]) hx hb dX9_ones_17 rfl hl (by decide) rfl (fun ls hl => ?_)
        refine lv_iinc (v := y2 + 1) (lv' := [(2, .int (y2 + 1)), (1, .int (y1 + ((y0 >>> (y2 &&& 31)) &&& 1))), (0, .int y0)]) hx hb dX9_ones_18 hl (k := 2) rfl rfl (by decide) rfl (fun ls hl => ?_)
        refine lv_goto (tgt := 4) hx hb dX9_ones_21 (by decide) ?_
        exact ih y0 (y1 + ((y0 >>> (y2 &&& 31)) &&& 1)) (y2 + 1) h ls (lv_sub (l' := [(0, .int y0), (1, .int (y1 + ((y0 >>> (y2 &&& 31)) &&& 1))), (2, .int (y2 + 1))]) hl [2, 1, 0] rfl)
  unfold fX9_ones at h
  refine lv_iconst (v := 0) hx hb dX9_ones_0 (by decide) ?_
  refine lv_istore_n (lv' := [(1, .int 0), (0, .int x0)]) hx hb dX9_ones_1 rfl hl (by decide) rfl (fun ls hl => ?_)
  refine lv_iconst (v := 0) hx hb dX9_ones_2 (by decide) ?_
  refine lv_istore_n (lv' := [(2, .int 0), (1, .int 0), (0, .int x0)]) hx hb dX9_ones_3 rfl hl (by decide) rfl (fun ls hl => ?_)
  exact F4 5000 x0 0 0 h ls (lv_sub (l' := [(0, .int x0), (1, .int 0), (2, .int 0)]) hl [2, 1, 0] rfl)
set_option maxHeartbeats 8000000 in
set_option maxRecDepth 100000 in
theorem qX9_startChange (l : Launch) (D : va_G) (cI cM : ClassId) (a_z a_z_s a_z_past a_z_keeps a_z_entryKey a_z_entryDefault a_z_held a_z_values a_z_kinds a_z_news : Nat) (z_s : Nat → Int32) (z_past : Nat → Int32) (z_pasts : Int32) (z_changed : Int32) (z_entries : Int32) (z_keeps : Nat → Int32) (z_entryKey : Nat → Int32) (z_entryDefault : Nat → Int32) (z_counter : Int32) (z_held : Nat → Int32) (z_values : Nat → Int32) (z_kinds : Nat → Int32) (z_news : Nat → Int32) (x1 : Int32) (r : Int32) (r_z_changed : Int32) (r_z_entries : Int32) (h : fX9_startChange z_s z_changed z_entries x1 = some (r, r_z_changed, r_z_entries)) : IM l yX9_startChange wsX9_startChange rmX9_startChange D cI cM [.ref a_z, .int x1] (W_z cI cM a_z a_z_s a_z_past a_z_keeps a_z_entryKey a_z_entryDefault a_z_held a_z_values a_z_kinds a_z_news z_s z_past z_pasts z_changed z_entries z_keeps z_entryKey z_entryDefault z_counter z_held z_values z_kinds z_news) (W_z cI cM a_z a_z_s a_z_past a_z_keeps a_z_entryKey a_z_entryDefault a_z_held a_z_values a_z_kinds a_z_news z_s z_past z_pasts r_z_changed r_z_entries z_keeps z_entryKey z_entryDefault z_counter z_held z_values z_kinds z_news) (some (.int r)) := by
  refine IM.of (cc := cX9_startChange) (maxL := 2) (ret := (some .int)) (by decide) rfl (Nat.le_of_ble_eq_true rfl) ?_
  intro p e s m below meth c ls hx hb hr hml hown hts hlk hKK hP hD hS hl
  have hown : s.vm.findClass RX9 = some m.cls := hown
  have hl : lv_has ls 2 [(0, .ref a_z), (1, .int x1)] := hl
  generalize hav : ([.ref a_z, .int x1] : List Value) = av at hts ⊢
  generalize hw1 : W_z cI cM a_z a_z_s a_z_past a_z_keeps a_z_entryKey a_z_entryDefault a_z_held a_z_values a_z_kinds a_z_news z_s z_past z_pasts r_z_changed r_z_entries z_keeps z_entryKey z_entryDefault z_counter z_held z_values z_kinds z_news = w1
  generalize hw0 : W_z cI cM a_z a_z_s a_z_past a_z_keeps a_z_entryKey a_z_entryDefault a_z_held a_z_values a_z_kinds a_z_news z_s z_past z_pasts z_changed z_entries z_keeps z_entryKey z_entryDefault z_counter z_held z_values z_kinds z_news = w0 at hD hS ⊢
  have hP : va_P D vwCl (W_z cI cM a_z a_z_s a_z_past a_z_keeps a_z_entryKey a_z_entryDefault a_z_held a_z_values a_z_kinds a_z_news z_s z_past z_pasts z_changed z_entries z_keeps z_entryKey z_entryDefault z_counter z_held z_values z_kinds z_news) s.heap := hP
  have hD : va_D (fun q => q ∈ w0.map (·.1)) (W_z cI cM a_z a_z_s a_z_past a_z_keeps a_z_entryKey a_z_entryDefault a_z_held a_z_values a_z_kinds a_z_news z_s z_past z_pasts z_changed z_entries z_keeps z_entryKey z_entryDefault z_counter z_held z_values z_kinds z_news) := by rw [hw0]; exact hD
  have SS : CallFix p m c cX9_startChange 2 s av.toArray wsX9_startChange RX9 := ⟨hx, hb, hml, hown, hts⟩
  have hinX9 : ∀ w ∈ u_ws RX9 TX9 13, w ∈ wsX9_startChange := by decide +kernel
  have lk16 := hts (.fieldLink RX9 16 "SignatureChangerModel" "changed" "I") (List.mem_of_getElem? (i := 1) rfl)
  have lk151 := hts (.fieldLink RX9 151 "SignatureChangerModel" "entries" "I") (List.mem_of_getElem? (i := 2) rfl)
  have cw105 : CallW rmX9_startChange s av.toArray RX9 RX9 105 yX9_isMethod cX9_isMethod 2 (some .boolean) wsX9_isMethod rmX9_isMethod 0 0 1 := cwV 1 hts gX9_startChange_X9_isMethod rfl rfl rfl (by decide +kernel) ⟨Nat.le_of_ble_eq_true rfl, Nat.le_of_ble_eq_true rfl⟩
  have cw108 : CallW rmX9_startChange s av.toArray RX9 RX9 108 yX9_familyOf cX9_familyOf 6 (some .int) wsX9_familyOf rmX9_familyOf 0 0 1 := cwV 1 hts gX9_startChange_X9_familyOf rfl rfl rfl (by decide +kernel) ⟨Nat.le_of_ble_eq_true rfl, Nat.le_of_ble_eq_true rfl⟩
  have cw154 : CallB rmX9_startChange s av.toArray RX9 154 yX9_ones cX9_ones 3 (some .int) wsX9_ones rmX9_ones 0 0 1 ∧ (Cond.static yX9_ones).before av.toArray s = true := va_cwS 1 hts gX9_startChange_X9_ones rfl rfl rfl (by decide +kernel) ⟨Nat.le_of_ble_eq_true rfl, Nat.le_of_ble_eq_true rfl⟩
  unfold fX9_startChange at h
  refine lv_aload_n hx hb dX9_startChange_0 rfl (lv_at hl 0 rfl) ?_
  refine lv_iload_n hx hb dX9_startChange_1 rfl (lv_at hl 1 rfl) ?_
  obtain ⟨v1, ev1, h⟩ := bn_some h
  have hs2 : va_P D vwCl (W_z cI cM a_z a_z_s a_z_past a_z_keeps a_z_entryKey a_z_entryDefault a_z_held a_z_values a_z_kinds a_z_news z_s z_past z_pasts z_changed z_entries z_keeps z_entryKey z_entryDefault z_counter z_held z_values z_kinds z_news) _ := hP.sub (ws' := W_z cI cM a_z a_z_s a_z_past a_z_keeps a_z_entryKey a_z_entryDefault a_z_held a_z_values a_z_kinds a_z_news z_s z_past z_pasts z_changed z_entries z_keeps z_entryKey z_entryDefault z_counter z_held z_values z_kinds z_news) [0, 1, 2, 3, 4, 5, 6, 7, 8, 9] rfl
  refine kV (As := [.int x1]) (rest := []) SS hKK (qX9_isMethod l D cI cM a_z a_z_s a_z_past a_z_keeps a_z_entryKey a_z_entryDefault a_z_held a_z_values a_z_kinds a_z_news z_s z_past z_pasts z_changed z_entries z_keeps z_entryKey z_entryDefault z_counter z_held z_values z_kinds z_news x1 v1 ev1) cw105 hs2 0 9 rfl rfl rfl hl.1 rfl (Nat.le_of_ble_eq_true rfl) dX9_startChange_2 ⟨Nat.zero_le _, Nat.zero_le _⟩ ?_
  refine lv_if_ne (tgt := 10) hx hb dX9_startChange_5 (by decide) (fun c3 => ?_) (fun c3 => ?_)
  · have h := ifn h c3
    refine lv_aload_n hx hb dX9_startChange_10 rfl (lv_at hl 0 rfl) ?_
    refine lv_iload_n hx hb dX9_startChange_11 rfl (lv_at hl 1 rfl) ?_
    refine va_put (D := D) (ci := 9) (v := .int x1) (ty := .int) (C := RX9) (T := TX9) (N := 13) hx hb hts hinX9 tyX9 tyX9_ok nmX9 hown hKK.1 hP hD hS 0 rfl rfl 3 (by decide) lk16 (fun _ h9 => h9) rfl (by decide +kernel) rfl rfl (Nat.le_of_ble_eq_true rfl) dX9_startChange_12 (fun H locs hP hD hS => ?_)
    have hP : va_P D vwCl (W_z cI cM a_z a_z_s a_z_past a_z_keeps a_z_entryKey a_z_entryDefault a_z_held a_z_values a_z_kinds a_z_news z_s z_past z_pasts x1 z_entries z_keeps z_entryKey z_entryDefault z_counter z_held z_values z_kinds z_news) H := hP
    have hD : va_D _ (W_z cI cM a_z a_z_s a_z_past a_z_keeps a_z_entryKey a_z_entryDefault a_z_held a_z_values a_z_kinds a_z_news z_s z_past z_pasts x1 z_entries z_keeps z_entryKey z_entryDefault z_counter z_held z_values z_kinds z_news) := hD
    refine lv_aload_n hx hb dX9_startChange_15 rfl (lv_at hl 0 rfl) ?_
    refine lv_iconst (v := 0) hx hb dX9_startChange_16 (by decide) ?_
    refine va_put (D := D) (ci := 9) (v := .int 0) (ty := .int) (C := RX9) (T := TX9) (N := 13) hx hb hts hinX9 tyX9 tyX9_ok nmX9 hown hKK.1 hP hD hS 0 rfl rfl 4 (by decide) lk151 (fun _ h9 => h9) rfl (by decide +kernel) rfl rfl (Nat.le_of_ble_eq_true rfl) dX9_startChange_17 (fun H locs hP hD hS => ?_)
    have hP : va_P D vwCl (W_z cI cM a_z a_z_s a_z_past a_z_keeps a_z_entryKey a_z_entryDefault a_z_held a_z_values a_z_kinds a_z_news z_s z_past z_pasts x1 0 z_keeps z_entryKey z_entryDefault z_counter z_held z_values z_kinds z_news) H := hP
    have hD : va_D _ (W_z cI cM a_z a_z_s a_z_past a_z_keeps a_z_entryKey a_z_entryDefault a_z_held a_z_values a_z_kinds a_z_news z_s z_past z_pasts x1 0 z_keeps z_entryKey z_entryDefault z_counter z_held z_values z_kinds z_news) := hD
    refine lv_aload_n hx hb dX9_startChange_20 rfl (lv_at hl 0 rfl) ?_
    refine lv_iload_n hx hb dX9_startChange_21 rfl (lv_at hl 1 rfl) ?_
    obtain ⟨v4, ev4, h⟩ := bn_some h
    have hs5 : va_P D vwCl (W_z cI cM a_z a_z_s a_z_past a_z_keeps a_z_entryKey a_z_entryDefault a_z_held a_z_values a_z_kinds a_z_news z_s z_past z_pasts x1 0 z_keeps z_entryKey z_entryDefault z_counter z_held z_values z_kinds z_news) _ := hP.sub (ws' := W_z cI cM a_z a_z_s a_z_past a_z_keeps a_z_entryKey a_z_entryDefault a_z_held a_z_values a_z_kinds a_z_news z_s z_past z_pasts x1 0 z_keeps z_entryKey z_entryDefault z_counter z_held z_values z_kinds z_news) [0, 1, 2, 3, 4, 5, 6, 7, 8, 9] rfl
    refine kV (As := [.int x1]) (rest := []) SS hKK (qX9_familyOf l D cI cM a_z a_z_s a_z_past a_z_keeps a_z_entryKey a_z_entryDefault a_z_held a_z_values a_z_kinds a_z_news z_s z_past z_pasts x1 0 z_keeps z_entryKey z_entryDefault z_counter z_held z_values z_kinds z_news x1 v4 ev4) cw108 hs5 0 9 rfl rfl rfl hl.1 rfl (Nat.le_of_ble_eq_true rfl) dX9_startChange_22 ⟨Nat.zero_le _, Nat.zero_le _⟩ ?_
    obtain ⟨v6, ev6, h⟩ := bn_some h
    refine kS (As := [.int v4]) (rest := []) SS hKK (qX9_ones l D cI cM v4 v6 ev6) cw154 va_P_nil rfl hl.1 rfl (Nat.le_of_ble_eq_true rfl) dX9_startChange_25 ⟨Nat.zero_le _, Nat.zero_le _⟩ ?_
    simp only [Option.some.injEq, Prod.mk.injEq] at h
    obtain ⟨e0, e1, e2⟩ := h
    exact kRetI hx hb hr hlk e0 (by rw [← hw1, ← e1, ← e2]; exact hP) hS dX9_startChange_28
  · have h := ifp h c3
    refine lv_iconst (v := (-1)) hx hb dX9_startChange_8 (by decide) ?_
    simp only [Option.some.injEq, Prod.mk.injEq] at h
    obtain ⟨e0, e1, e2⟩ := h
    exact kRetI hx hb hr hlk e0 (by rw [← hw1, ← e1, ← e2]; exact hP) hS dX9_startChange_9
set_option maxHeartbeats 8000000 in
set_option maxRecDepth 100000 in
theorem qX9_entryOf (l : Launch) (D : va_G) (cI cM : ClassId) (a_z a_z_s a_z_past a_z_keeps a_z_entryKey a_z_entryDefault a_z_held a_z_values a_z_kinds a_z_news : Nat) (z_s : Nat → Int32) (z_past : Nat → Int32) (z_pasts : Int32) (z_changed : Int32) (z_entries : Int32) (z_keeps : Nat → Int32) (z_entryKey : Nat → Int32) (z_entryDefault : Nat → Int32) (z_counter : Int32) (z_held : Nat → Int32) (z_values : Nat → Int32) (z_kinds : Nat → Int32) (z_news : Nat → Int32) (x1 : Int32) (r : Int32) (h : fX9_entryOf z_entries z_keeps x1 = some r) : PM l yX9_entryOf wsX9_entryOf rmX9_entryOf D cI cM [.ref a_z, .int x1] (W_z cI cM a_z a_z_s a_z_past a_z_keeps a_z_entryKey a_z_entryDefault a_z_held a_z_values a_z_kinds a_z_news z_s z_past z_pasts z_changed z_entries z_keeps z_entryKey z_entryDefault z_counter z_held z_values z_kinds z_news) r := by
  refine PM.of (cc := cX9_entryOf) (maxL := 3) (ret := (some .int)) (by decide) rfl (Nat.le_of_ble_eq_true rfl) ?_
  intro p e s m below meth c ls hx hb hr hml hown hts hlk hP hKK hl
  have hown : s.vm.findClass RX9 = some m.cls := hown
  have hl : lv_has ls 3 [(0, .ref a_z), (1, .int x1)] := hl
  generalize hav : ([.ref a_z, .int x1] : List Value) = av at hts ⊢
  have SS : CallFix p m c cX9_entryOf 3 s av.toArray wsX9_entryOf RX9 := ⟨hx, hb, hml, hown, hts⟩
  have hinX9 : ∀ w ∈ u_ws RX9 TX9 13, w ∈ wsX9_entryOf := by decide +kernel
  have lk20 := hts (.fieldLink RX9 20 "SignatureChangerModel" "keeps" "[I") (List.mem_of_getElem? (i := 2) rfl)
  have lk151 := hts (.fieldLink RX9 151 "SignatureChangerModel" "entries" "I") (List.mem_of_getElem? (i := 1) rfl)
  have F2 : ∀ (n : Nat) (y1 : Int32) (y2 : Int32), lX9_entryOf_2 z_entries z_keeps n y1 y2 = some r → ∀ ls : Array Slot, lv_has ls 3 [(0, .ref a_z), (1, .int y1), (2, .int y2)] → WP p l e rmX9_entryOf s m av below meth c r 2 ls [] := by
    intro n
    induction n with
    | zero => intro y1 y2 h; exact no_some h
    | succ n ih =>
      intro y1 y2 h ls hl
      rw [lX9_entryOf_2_s] at h
      refine lv_iload_n hx hb dX9_entryOf_2 rfl (lv_at hl 2 rfl) ?_
      refine lv_aload_n hx hb dX9_entryOf_3 rfl (lv_at hl 0 rfl) ?_
      refine va_get (D := D) (ci := 9) (v := .int z_entries) (C := RX9) (T := TX9) (N := 13) hx hb hts hinX9 hown hKK.1 hP 0 rfl rfl 4 (by decide) lk151 (fun _ h9 => h9) rfl dX9_entryOf_4 ?_
      refine lv_icmp_ge (tgt := 28) hx hb dX9_entryOf_7 (by decide) (fun c1 => ?_) (fun c1 => ?_)
      · have h := ifp h c1
        refine lv_bipush (v := (-9)) hx hb dX9_entryOf_28 (by decide) ?_
        exact kRet hx hb hr hlk (Option.some.inj h) dX9_entryOf_30
      · have h := ifn h c1
        refine lv_aload_n hx hb dX9_entryOf_10 rfl (lv_at hl 0 rfl) ?_
        refine va_get (D := D) (ci := 9) (v := .ref a_z_keeps) (C := RX9) (T := TX9) (N := 13) hx hb hts hinX9 hown hKK.1 hP 0 rfl rfl 5 (by decide) lk20 (fun _ h9 => h9) rfl dX9_entryOf_11 ?_
        refine lv_iload_n hx hb dX9_entryOf_14 rfl (lv_at hl 2 rfl) ?_
        obtain ⟨v2, iv2, ev2, h⟩ := rd_some h
        refine kAld hx hb hKK hP 3 rfl iv2 ev2 dX9_entryOf_15 ?_
        refine lv_iload_n hx hb dX9_entryOf_16 rfl (lv_at hl 1 rfl) ?_
        refine lv_icmp_ne (tgt := 22) hx hb dX9_entryOf_17 (by decide) (fun c3 => ?_) (fun c3 => ?_)
        · have h := ifn h c3
          refine lv_iinc (v := y2 + 1) (lv' := [(2, .int (y2 + 1)), (0, .ref a_z), (1, .int y1)]) hx hb dX9_entryOf_22 hl (k := 2) rfl rfl (by decide) rfl (fun ls hl => ?_)
          refine lv_goto (tgt := 2) hx hb dX9_entryOf_25 (by decide) ?_
          exact ih y1 (y2 + 1) h ls (lv_sub (l' := [(0, .ref a_z), (1, .int y1), (2, .int (y2 + 1))]) hl [1, 2, 0] rfl)
        · have h := ifp h c3
          refine lv_iload_n hx hb dX9_entryOf_20 rfl (lv_at hl 2 rfl) ?_
          exact kRet hx hb hr hlk (Option.some.inj h) dX9_entryOf_21
  unfold fX9_entryOf at h
  refine lv_iconst (v := 0) hx hb dX9_entryOf_0 (by decide) ?_
  refine lv_istore_n (lv' := [(2, .int 0), (0, .ref a_z), (1, .int x1)]) hx hb dX9_entryOf_1 rfl hl (by decide) rfl (fun ls hl => ?_)
  exact F2 5000 x1 0 h ls (lv_sub (l' := [(0, .ref a_z), (1, .int x1), (2, .int 0)]) hl [1, 2, 0] rfl)
set_option maxHeartbeats 8000000 in
set_option maxRecDepth 100000 in
theorem qX9_keepParameter (l : Launch) (D : va_G) (cI cM : ClassId) (a_z a_z_s a_z_past a_z_keeps a_z_entryKey a_z_entryDefault a_z_held a_z_values a_z_kinds a_z_news : Nat) (z_s : Nat → Int32) (z_past : Nat → Int32) (z_pasts : Int32) (z_changed : Int32) (z_entries : Int32) (z_keeps : Nat → Int32) (z_entryKey : Nat → Int32) (z_entryDefault : Nat → Int32) (z_counter : Int32) (z_held : Nat → Int32) (z_values : Nat → Int32) (z_kinds : Nat → Int32) (z_news : Nat → Int32) (x1 : Int32) (r : Int32) (r_z_entries : Int32) (r_z_keeps : Nat → Int32) (r_z_entryKey : Nat → Int32) (r_z_entryDefault : Nat → Int32) (h : fX9_keepParameter z_s z_changed z_entries z_keeps z_entryKey z_entryDefault x1 = some (r, r_z_entries, r_z_keeps, r_z_entryKey, r_z_entryDefault)) : IM l yX9_keepParameter wsX9_keepParameter rmX9_keepParameter D cI cM [.ref a_z, .int x1] (W_z cI cM a_z a_z_s a_z_past a_z_keeps a_z_entryKey a_z_entryDefault a_z_held a_z_values a_z_kinds a_z_news z_s z_past z_pasts z_changed z_entries z_keeps z_entryKey z_entryDefault z_counter z_held z_values z_kinds z_news) (W_z cI cM a_z a_z_s a_z_past a_z_keeps a_z_entryKey a_z_entryDefault a_z_held a_z_values a_z_kinds a_z_news z_s z_past z_pasts z_changed r_z_entries r_z_keeps r_z_entryKey r_z_entryDefault z_counter z_held z_values z_kinds z_news) (some (.int r)) := by
  refine IM.of (cc := cX9_keepParameter) (maxL := 2) (ret := (some .int)) (by decide) rfl (Nat.le_of_ble_eq_true rfl) ?_
  intro p e s m below meth c ls hx hb hr hml hown hts hlk hKK hP hD hS hl
  have hown : s.vm.findClass RX9 = some m.cls := hown
  have hl : lv_has ls 2 [(0, .ref a_z), (1, .int x1)] := hl
  generalize hav : ([.ref a_z, .int x1] : List Value) = av at hts ⊢
  generalize hw1 : W_z cI cM a_z a_z_s a_z_past a_z_keeps a_z_entryKey a_z_entryDefault a_z_held a_z_values a_z_kinds a_z_news z_s z_past z_pasts z_changed r_z_entries r_z_keeps r_z_entryKey r_z_entryDefault z_counter z_held z_values z_kinds z_news = w1
  generalize hw0 : W_z cI cM a_z a_z_s a_z_past a_z_keeps a_z_entryKey a_z_entryDefault a_z_held a_z_values a_z_kinds a_z_news z_s z_past z_pasts z_changed z_entries z_keeps z_entryKey z_entryDefault z_counter z_held z_values z_kinds z_news = w0 at hD hS ⊢
  have hP : va_P D vwCl (W_z cI cM a_z a_z_s a_z_past a_z_keeps a_z_entryKey a_z_entryDefault a_z_held a_z_values a_z_kinds a_z_news z_s z_past z_pasts z_changed z_entries z_keeps z_entryKey z_entryDefault z_counter z_held z_values z_kinds z_news) s.heap := hP
  have hD : va_D (fun q => q ∈ w0.map (·.1)) (W_z cI cM a_z a_z_s a_z_past a_z_keeps a_z_entryKey a_z_entryDefault a_z_held a_z_values a_z_kinds a_z_news z_s z_past z_pasts z_changed z_entries z_keeps z_entryKey z_entryDefault z_counter z_held z_values z_kinds z_news) := by rw [hw0]; exact hD
  have SS : CallFix p m c cX9_keepParameter 2 s av.toArray wsX9_keepParameter RX9 := ⟨hx, hb, hml, hown, hts⟩
  have hinX9 : ∀ w ∈ u_ws RX9 TX9 13, w ∈ wsX9_keepParameter := by decide +kernel
  have lk16 := hts (.fieldLink RX9 16 "SignatureChangerModel" "changed" "I") (List.mem_of_getElem? (i := 1) rfl)
  have lk20 := hts (.fieldLink RX9 20 "SignatureChangerModel" "keeps" "[I") (List.mem_of_getElem? (i := 3) rfl)
  have lk23 := hts (.fieldLink RX9 23 "SignatureChangerModel" "entryKey" "[I") (List.mem_of_getElem? (i := 4) rfl)
  have lk26 := hts (.fieldLink RX9 26 "SignatureChangerModel" "entryDefault" "[I") (List.mem_of_getElem? (i := 5) rfl)
  have lk151 := hts (.fieldLink RX9 151 "SignatureChangerModel" "entries" "I") (List.mem_of_getElem? (i := 2) rfl)
  have cw44 : CallB rmX9_keepParameter s av.toArray RX9 44 yX9_in cX9_in 3 (some .boolean) wsX9_in rmX9_in 0 0 3 ∧ (Cond.static yX9_in).before av.toArray s = true := va_cwS 3 hts gX9_keepParameter_X9_in rfl rfl rfl (by decide +kernel) ⟨Nat.le_of_ble_eq_true rfl, Nat.le_of_ble_eq_true rfl⟩
  have cw63 : CallW rmX9_keepParameter s av.toArray RX9 RX9 63 yX9_of cX9_of 3 (some .int) wsX9_of rmX9_of 0 0 2 := cwV 2 hts gX9_keepParameter_X9_of rfl rfl rfl (by decide +kernel) ⟨Nat.le_of_ble_eq_true rfl, Nat.le_of_ble_eq_true rfl⟩
  have cw157 : CallW rmX9_keepParameter s av.toArray RX9 RX9 157 yX9_entryOf cX9_entryOf 3 (some .int) wsX9_entryOf rmX9_entryOf 0 0 1 := cwV 1 hts gX9_keepParameter_X9_entryOf rfl rfl rfl (by decide +kernel) ⟨Nat.le_of_ble_eq_true rfl, Nat.le_of_ble_eq_true rfl⟩
  unfold fX9_keepParameter at h
  refine lv_aload_n hx hb dX9_keepParameter_0 rfl (lv_at hl 0 rfl) ?_
  refine va_get (D := D) (ci := 9) (v := .int z_changed) (C := RX9) (T := TX9) (N := 13) hx hb hts hinX9 hown hKK.1 hP 0 rfl rfl 3 (by decide) lk16 (fun _ h9 => h9) rfl dX9_keepParameter_1 ?_
  refine lv_bipush (v := (-9)) hx hb dX9_keepParameter_4 (by decide) ?_
  refine lv_icmp_ne (tgt := 12) hx hb dX9_keepParameter_6 (by decide) (fun c1 => ?_) (fun c1 => ?_)
  · have h := ifn h c1
    refine lv_iload_n hx hb dX9_keepParameter_12 rfl (lv_at hl 1 rfl) ?_
    refine lv_iconst (v := 0) hx hb dX9_keepParameter_13 (by decide) ?_
    refine lv_aload_n hx hb dX9_keepParameter_14 rfl (lv_at hl 0 rfl) ?_
    refine lv_aload_n hx hb dX9_keepParameter_15 rfl (lv_at hl 0 rfl) ?_
    refine va_get (D := D) (ci := 9) (v := .int z_changed) (C := RX9) (T := TX9) (N := 13) hx hb hts hinX9 hown hKK.1 hP 0 rfl rfl 3 (by decide) lk16 (fun _ h9 => h9) rfl dX9_keepParameter_16 ?_
    refine lv_iconst (v := 2) hx hb dX9_keepParameter_19 (by decide) ?_
    obtain ⟨v2, ev2, h⟩ := bn_some h
    have hs3 : va_P D vwCl (W_z cI cM a_z a_z_s a_z_past a_z_keeps a_z_entryKey a_z_entryDefault a_z_held a_z_values a_z_kinds a_z_news z_s z_past z_pasts z_changed z_entries z_keeps z_entryKey z_entryDefault z_counter z_held z_values z_kinds z_news) _ := hP.sub (ws' := W_z cI cM a_z a_z_s a_z_past a_z_keeps a_z_entryKey a_z_entryDefault a_z_held a_z_values a_z_kinds a_z_news z_s z_past z_pasts z_changed z_entries z_keeps z_entryKey z_entryDefault z_counter z_held z_values z_kinds z_news) [0, 1, 2, 3, 4, 5, 6, 7, 8, 9] rfl
    refine kV (As := [.int z_changed, .int 2]) (rest := [.int 0, .int x1]) SS hKK (qX9_of l D cI cM a_z a_z_s a_z_past a_z_keeps a_z_entryKey a_z_entryDefault a_z_held a_z_values a_z_kinds a_z_news z_s z_past z_pasts z_changed z_entries z_keeps z_entryKey z_entryDefault z_counter z_held z_values z_kinds z_news z_changed 2 v2 ev2) cw63 hs3 0 9 rfl rfl rfl hl.1 rfl (Nat.le_of_ble_eq_true rfl) dX9_keepParameter_20 ⟨Nat.zero_le _, Nat.zero_le _⟩ ?_
    refine lv_iconst (v := 1) hx hb dX9_keepParameter_23 (by decide) ?_
    refine lv_isub hx hb dX9_keepParameter_24 ?_
    obtain ⟨v4, ev4, h⟩ := bn_some h
    refine kS (As := [.int x1, .int 0, .int (v2 - 1)]) (rest := []) SS hKK (qX9_in l D cI cM x1 0 (v2 - 1) v4 ev4) cw44 va_P_nil rfl hl.1 rfl (Nat.le_of_ble_eq_true rfl) dX9_keepParameter_25 ⟨Nat.zero_le _, Nat.zero_le _⟩ ?_
    refine lv_if_ne (tgt := 33) hx hb dX9_keepParameter_28 (by decide) (fun c5 => ?_) (fun c5 => ?_)
    · have h := ifn h c5
      refine lv_aload_n hx hb dX9_keepParameter_33 rfl (lv_at hl 0 rfl) ?_
      refine lv_iload_n hx hb dX9_keepParameter_34 rfl (lv_at hl 1 rfl) ?_
      obtain ⟨v6, ev6, h⟩ := bn_some h
      refine kV (As := [.int x1]) (rest := []) SS hKK (qX9_entryOf l D cI cM a_z a_z_s a_z_past a_z_keeps a_z_entryKey a_z_entryDefault a_z_held a_z_values a_z_kinds a_z_news z_s z_past z_pasts z_changed z_entries z_keeps z_entryKey z_entryDefault z_counter z_held z_values z_kinds z_news x1 v6 ev6) cw157 hs3 0 9 rfl rfl rfl hl.1 rfl (Nat.le_of_ble_eq_true rfl) dX9_keepParameter_35 ⟨Nat.zero_le _, Nat.zero_le _⟩ ?_
      refine lv_bipush (v := (-9)) hx hb dX9_keepParameter_38 (by decide) ?_
      refine lv_icmp_eq (tgt := 46) hx hb dX9_keepParameter_40 (by decide) (fun c7 => ?_) (fun c7 => ?_)
      · have h := ifp h c7
        refine lv_aload_n hx hb dX9_keepParameter_46 rfl (lv_at hl 0 rfl) ?_
        refine va_get (D := D) (ci := 9) (v := .int z_entries) (C := RX9) (T := TX9) (N := 13) hx hb hts hinX9 hown hKK.1 hP 0 rfl rfl 4 (by decide) lk151 (fun _ h9 => h9) rfl dX9_keepParameter_47 ?_
        refine lv_iconst (v := 5) hx hb dX9_keepParameter_50 (by decide) ?_
        refine lv_icmp_ne (tgt := 57) hx hb dX9_keepParameter_51 (by decide) (fun c8 => ?_) (fun c8 => ?_)
        · have h := ifn h c8
          refine lv_aload_n hx hb dX9_keepParameter_57 rfl (lv_at hl 0 rfl) ?_
          refine va_get (D := D) (ci := 9) (v := .ref a_z_keeps) (C := RX9) (T := TX9) (N := 13) hx hb hts hinX9 hown hKK.1 hP 0 rfl rfl 5 (by decide) lk20 (fun _ h9 => h9) rfl dX9_keepParameter_58 ?_
          refine lv_aload_n hx hb dX9_keepParameter_61 rfl (lv_at hl 0 rfl) ?_
          refine va_get (D := D) (ci := 9) (v := .int z_entries) (C := RX9) (T := TX9) (N := 13) hx hb hts hinX9 hown hKK.1 hP 0 rfl rfl 4 (by decide) lk151 (fun _ h9 => h9) rfl dX9_keepParameter_62 ?_
          refine lv_iload_n hx hb dX9_keepParameter_65 rfl (lv_at hl 1 rfl) ?_
          obtain ⟨g9, ig9, eg9, h⟩ := wr_some h
          refine kAst hx hb hKK hP hD hS 3 rfl ig9 eg9 dX9_keepParameter_66 (fun H locs hP hD hS => ?_)
          have hP : va_P D vwCl (W_z cI cM a_z a_z_s a_z_past a_z_keeps a_z_entryKey a_z_entryDefault a_z_held a_z_values a_z_kinds a_z_news z_s z_past z_pasts z_changed z_entries g9 z_entryKey z_entryDefault z_counter z_held z_values z_kinds z_news) H := hP
          have hD : va_D _ (W_z cI cM a_z a_z_s a_z_past a_z_keeps a_z_entryKey a_z_entryDefault a_z_held a_z_values a_z_kinds a_z_news z_s z_past z_pasts z_changed z_entries g9 z_entryKey z_entryDefault z_counter z_held z_values z_kinds z_news) := hD
          refine lv_aload_n hx hb dX9_keepParameter_67 rfl (lv_at hl 0 rfl) ?_
          refine va_get (D := D) (ci := 9) (v := .ref a_z_entryKey) (C := RX9) (T := TX9) (N := 13) hx hb hts hinX9 hown hKK.1 hP 0 rfl rfl 6 (by decide) lk23 (fun _ h9 => h9) rfl dX9_keepParameter_68 ?_
          refine lv_aload_n hx hb dX9_keepParameter_71 rfl (lv_at hl 0 rfl) ?_
          refine va_get (D := D) (ci := 9) (v := .int z_entries) (C := RX9) (T := TX9) (N := 13) hx hb hts hinX9 hown hKK.1 hP 0 rfl rfl 4 (by decide) lk151 (fun _ h9 => h9) rfl dX9_keepParameter_72 ?_
          refine lv_aload_n hx hb dX9_keepParameter_75 rfl (lv_at hl 0 rfl) ?_
          refine lv_aload_n hx hb dX9_keepParameter_76 rfl (lv_at hl 0 rfl) ?_
          refine va_get (D := D) (ci := 9) (v := .int z_changed) (C := RX9) (T := TX9) (N := 13) hx hb hts hinX9 hown hKK.1 hP 0 rfl rfl 3 (by decide) lk16 (fun _ h9 => h9) rfl dX9_keepParameter_77 ?_
          refine lv_iconst (v := 3) hx hb dX9_keepParameter_80 (by decide) ?_
          refine lv_iload_n hx hb dX9_keepParameter_81 rfl (lv_at hl 1 rfl) ?_
          refine lv_iadd hx hb dX9_keepParameter_82 ?_
          obtain ⟨v10, ev10, h⟩ := bn_some h
          have hs11 : va_P D vwCl (W_z cI cM a_z a_z_s a_z_past a_z_keeps a_z_entryKey a_z_entryDefault a_z_held a_z_values a_z_kinds a_z_news z_s z_past z_pasts z_changed z_entries g9 z_entryKey z_entryDefault z_counter z_held z_values z_kinds z_news) _ := hP.sub (ws' := W_z cI cM a_z a_z_s a_z_past a_z_keeps a_z_entryKey a_z_entryDefault a_z_held a_z_values a_z_kinds a_z_news z_s z_past z_pasts z_changed z_entries g9 z_entryKey z_entryDefault z_counter z_held z_values z_kinds z_news) [0, 1, 2, 3, 4, 5, 6, 7, 8, 9] rfl
          refine kV (As := [.int z_changed, .int (3 + x1)]) (rest := [.int z_entries, .ref a_z_entryKey]) SS hKK (qX9_of l D cI cM a_z a_z_s a_z_past a_z_keeps a_z_entryKey a_z_entryDefault a_z_held a_z_values a_z_kinds a_z_news z_s z_past z_pasts z_changed z_entries g9 z_entryKey z_entryDefault z_counter z_held z_values z_kinds z_news z_changed (3 + x1) v10 ev10) cw63 hs11 0 9 rfl rfl rfl hl.1 rfl (Nat.le_of_ble_eq_true rfl) dX9_keepParameter_83 ⟨Nat.zero_le _, Nat.zero_le _⟩ ?_
          obtain ⟨g12, ig12, eg12, h⟩ := wr_some h
          refine kAst hx hb hKK hP hD hS 4 rfl ig12 eg12 dX9_keepParameter_86 (fun H locs hP hD hS => ?_)
          have hP : va_P D vwCl (W_z cI cM a_z a_z_s a_z_past a_z_keeps a_z_entryKey a_z_entryDefault a_z_held a_z_values a_z_kinds a_z_news z_s z_past z_pasts z_changed z_entries g9 g12 z_entryDefault z_counter z_held z_values z_kinds z_news) H := hP
          have hD : va_D _ (W_z cI cM a_z a_z_s a_z_past a_z_keeps a_z_entryKey a_z_entryDefault a_z_held a_z_values a_z_kinds a_z_news z_s z_past z_pasts z_changed z_entries g9 g12 z_entryDefault z_counter z_held z_values z_kinds z_news) := hD
          refine lv_aload_n hx hb dX9_keepParameter_87 rfl (lv_at hl 0 rfl) ?_
          refine va_get (D := D) (ci := 9) (v := .ref a_z_entryDefault) (C := RX9) (T := TX9) (N := 13) hx hb hts hinX9 hown hKK.1 hP 0 rfl rfl 7 (by decide) lk26 (fun _ h9 => h9) rfl dX9_keepParameter_88 ?_
          refine lv_aload_n hx hb dX9_keepParameter_91 rfl (lv_at hl 0 rfl) ?_
          refine va_get (D := D) (ci := 9) (v := .int z_entries) (C := RX9) (T := TX9) (N := 13) hx hb hts hinX9 hown hKK.1 hP 0 rfl rfl 4 (by decide) lk151 (fun _ h9 => h9) rfl dX9_keepParameter_92 ?_
          refine lv_aload_n hx hb dX9_keepParameter_95 rfl (lv_at hl 0 rfl) ?_
          refine lv_aload_n hx hb dX9_keepParameter_96 rfl (lv_at hl 0 rfl) ?_
          refine va_get (D := D) (ci := 9) (v := .int z_changed) (C := RX9) (T := TX9) (N := 13) hx hb hts hinX9 hown hKK.1 hP 0 rfl rfl 3 (by decide) lk16 (fun _ h9 => h9) rfl dX9_keepParameter_97 ?_
          refine lv_bipush (v := 8) hx hb dX9_keepParameter_100 (by decide) ?_
          refine lv_iload_n hx hb dX9_keepParameter_102 rfl (lv_at hl 1 rfl) ?_
          refine lv_iadd hx hb dX9_keepParameter_103 ?_
          obtain ⟨v13, ev13, h⟩ := bn_some h
          have hs14 : va_P D vwCl (W_z cI cM a_z a_z_s a_z_past a_z_keeps a_z_entryKey a_z_entryDefault a_z_held a_z_values a_z_kinds a_z_news z_s z_past z_pasts z_changed z_entries g9 g12 z_entryDefault z_counter z_held z_values z_kinds z_news) _ := hP.sub (ws' := W_z cI cM a_z a_z_s a_z_past a_z_keeps a_z_entryKey a_z_entryDefault a_z_held a_z_values a_z_kinds a_z_news z_s z_past z_pasts z_changed z_entries g9 g12 z_entryDefault z_counter z_held z_values z_kinds z_news) [0, 1, 2, 3, 4, 5, 6, 7, 8, 9] rfl
          refine kV (As := [.int z_changed, .int (8 + x1)]) (rest := [.int z_entries, .ref a_z_entryDefault]) SS hKK (qX9_of l D cI cM a_z a_z_s a_z_past a_z_keeps a_z_entryKey a_z_entryDefault a_z_held a_z_values a_z_kinds a_z_news z_s z_past z_pasts z_changed z_entries g9 g12 z_entryDefault z_counter z_held z_values z_kinds z_news z_changed (8 + x1) v13 ev13) cw63 hs14 0 9 rfl rfl rfl hl.1 rfl (Nat.le_of_ble_eq_true rfl) dX9_keepParameter_104 ⟨Nat.zero_le _, Nat.zero_le _⟩ ?_
          obtain ⟨g15, ig15, eg15, h⟩ := wr_some h
          refine kAst hx hb hKK hP hD hS 5 rfl ig15 eg15 dX9_keepParameter_107 (fun H locs hP hD hS => ?_)
          have hP : va_P D vwCl (W_z cI cM a_z a_z_s a_z_past a_z_keeps a_z_entryKey a_z_entryDefault a_z_held a_z_values a_z_kinds a_z_news z_s z_past z_pasts z_changed z_entries g9 g12 g15 z_counter z_held z_values z_kinds z_news) H := hP
          have hD : va_D _ (W_z cI cM a_z a_z_s a_z_past a_z_keeps a_z_entryKey a_z_entryDefault a_z_held a_z_values a_z_kinds a_z_news z_s z_past z_pasts z_changed z_entries g9 g12 g15 z_counter z_held z_values z_kinds z_news) := hD
          refine lv_aload_n hx hb dX9_keepParameter_108 rfl (lv_at hl 0 rfl) ?_
          refine lv_dup hx hb dX9_keepParameter_109 rfl ?_
          refine va_get (D := D) (ci := 9) (v := .int z_entries) (C := RX9) (T := TX9) (N := 13) hx hb hts hinX9 hown hKK.1 hP 0 rfl rfl 4 (by decide) lk151 (fun _ h9 => h9) rfl dX9_keepParameter_110 ?_
          refine lv_iconst (v := 1) hx hb dX9_keepParameter_113 (by decide) ?_
          refine lv_iadd hx hb dX9_keepParameter_114 ?_
          refine va_put (D := D) (ci := 9) (v := .int (z_entries + 1)) (ty := .int) (C := RX9) (T := TX9) (N := 13) hx hb hts hinX9 tyX9 tyX9_ok nmX9 hown hKK.1 hP hD hS 0 rfl rfl 4 (by decide) lk151 (fun _ h9 => h9) rfl (by decide +kernel) rfl rfl (Nat.le_of_ble_eq_true rfl) dX9_keepParameter_115 (fun H locs hP hD hS => ?_)
          have hP : va_P D vwCl (W_z cI cM a_z a_z_s a_z_past a_z_keeps a_z_entryKey a_z_entryDefault a_z_held a_z_values a_z_kinds a_z_news z_s z_past z_pasts z_changed (z_entries + 1) g9 g12 g15 z_counter z_held z_values z_kinds z_news) H := hP
          have hD : va_D _ (W_z cI cM a_z a_z_s a_z_past a_z_keeps a_z_entryKey a_z_entryDefault a_z_held a_z_values a_z_kinds a_z_news z_s z_past z_pasts z_changed (z_entries + 1) g9 g12 g15 z_counter z_held z_values z_kinds z_news) := hD
          refine lv_aload_n hx hb dX9_keepParameter_118 rfl (lv_at hl 0 rfl) ?_
          refine va_get (D := D) (ci := 9) (v := .int (z_entries + 1)) (C := RX9) (T := TX9) (N := 13) hx hb hts hinX9 hown hKK.1 hP 0 rfl rfl 4 (by decide) lk151 (fun _ h9 => h9) rfl dX9_keepParameter_119 ?_
          simp only [Option.some.injEq, Prod.mk.injEq] at h
          obtain ⟨e0, e1, e2, e3, e4⟩ := h
          exact kRetI hx hb hr hlk e0 (by rw [← hw1, ← e1, ← e2, ← e3, ← e4]; exact hP) hS dX9_keepParameter_122
        · have h := ifp h c8
          refine lv_bipush (v := (-3)) hx hb dX9_keepParameter_54 (by decide) ?_
          simp only [Option.some.injEq, Prod.mk.injEq] at h
          obtain ⟨e0, e1, e2, e3, e4⟩ := h
          exact kRetI hx hb hr hlk e0 (by rw [← hw1, ← e1, ← e2, ← e3, ← e4]; exact hP) hS dX9_keepParameter_56
      · have h := ifn h c7
        refine lv_bipush (v := (-2)) hx hb dX9_keepParameter_43 (by decide) ?_
        simp only [Option.some.injEq, Prod.mk.injEq] at h
        obtain ⟨e0, e1, e2, e3, e4⟩ := h
        exact kRetI hx hb hr hlk e0 (by rw [← hw1, ← e1, ← e2, ← e3, ← e4]; exact hP) hS dX9_keepParameter_45
    · have h := ifp h c5
      refine lv_iconst (v := (-1)) hx hb dX9_keepParameter_31 (by decide) ?_
      simp only [Option.some.injEq, Prod.mk.injEq] at h
      obtain ⟨e0, e1, e2, e3, e4⟩ := h
      exact kRetI hx hb hr hlk e0 (by rw [← hw1, ← e1, ← e2, ← e3, ← e4]; exact hP) hS dX9_keepParameter_32
  · have h := ifp h c1
    refine lv_bipush (v := (-2)) hx hb dX9_keepParameter_9 (by decide) ?_
    simp only [Option.some.injEq, Prod.mk.injEq] at h
    obtain ⟨e0, e1, e2, e3, e4⟩ := h
    exact kRetI hx hb hr hlk e0 (by rw [← hw1, ← e1, ← e2, ← e3, ← e4]; exact hP) hS dX9_keepParameter_11
set_option maxHeartbeats 8000000 in
set_option maxRecDepth 100000 in
theorem qX9_isTaken (l : Launch) (D : va_G) (cI cM : ClassId) (a_z a_z_s a_z_past a_z_keeps a_z_entryKey a_z_entryDefault a_z_held a_z_values a_z_kinds a_z_news : Nat) (z_s : Nat → Int32) (z_past : Nat → Int32) (z_pasts : Int32) (z_changed : Int32) (z_entries : Int32) (z_keeps : Nat → Int32) (z_entryKey : Nat → Int32) (z_entryDefault : Nat → Int32) (z_counter : Int32) (z_held : Nat → Int32) (z_values : Nat → Int32) (z_kinds : Nat → Int32) (z_news : Nat → Int32) (x1 : Int32) (r : Int32) (h : fX9_isTaken z_s z_changed z_entries z_entryKey x1 = some r) : PM l yX9_isTaken wsX9_isTaken rmX9_isTaken D cI cM [.ref a_z, .int x1] (W_z cI cM a_z a_z_s a_z_past a_z_keeps a_z_entryKey a_z_entryDefault a_z_held a_z_values a_z_kinds a_z_news z_s z_past z_pasts z_changed z_entries z_keeps z_entryKey z_entryDefault z_counter z_held z_values z_kinds z_news) r := by
  refine PM.of (cc := cX9_isTaken) (maxL := 4) (ret := (some .boolean)) (by decide) rfl (Nat.le_of_ble_eq_true rfl) ?_
  intro p e s m below meth c ls hx hb hr hml hown hts hlk hP hKK hl
  have hown : s.vm.findClass RX9 = some m.cls := hown
  have hl : lv_has ls 4 [(0, .ref a_z), (1, .int x1)] := hl
  generalize hav : ([.ref a_z, .int x1] : List Value) = av at hts ⊢
  have SS : CallFix p m c cX9_isTaken 4 s av.toArray wsX9_isTaken RX9 := ⟨hx, hb, hml, hown, hts⟩
  have hinX9 : ∀ w ∈ u_ws RX9 TX9 13, w ∈ wsX9_isTaken := by decide +kernel
  have lk16 := hts (.fieldLink RX9 16 "SignatureChangerModel" "changed" "I") (List.mem_of_getElem? (i := 1) rfl)
  have lk23 := hts (.fieldLink RX9 23 "SignatureChangerModel" "entryKey" "[I") (List.mem_of_getElem? (i := 3) rfl)
  have lk151 := hts (.fieldLink RX9 151 "SignatureChangerModel" "entries" "I") (List.mem_of_getElem? (i := 2) rfl)
  have cw63 : CallW rmX9_isTaken s av.toArray RX9 RX9 63 yX9_of cX9_of 3 (some .int) wsX9_of rmX9_of 0 0 2 := cwV 2 hts gX9_isTaken_X9_of rfl rfl rfl (by decide +kernel) ⟨Nat.le_of_ble_eq_true rfl, Nat.le_of_ble_eq_true rfl⟩
  have F77 : ∀ (k50 : Int32 → Int32 → Int32 → Option (Int32)) (hk50 : ∀ (u1 : Int32) (u2 : Int32) (u3 : Int32), k50 u1 u2 u3 = some r → ∀ ls : Array Slot, lv_has ls 4 [(0, .ref a_z), (1, .int u1), (2, .int u2), (3, .int u3)] → WP p l e rmX9_isTaken s m av below meth c r 50 ls []), ∀ (y1 : Int32) (y3 : Int32) (s0 : Int32), jX9_isTaken_77 z_s z_changed z_entries z_entryKey k50 y1 y3 s0 = some r → ∀ ls : Array Slot, lv_has ls 4 [(0, .ref a_z), (1, .int y1), (3, .int y3)] → WP p l e rmX9_isTaken s m av below meth c r 77 ls [.int s0] := by
    intro k50 hk50
    intro y1 y3 s0 h ls hl
    unfold jX9_isTaken_77 at h
    refine lv_istore_n (lv' := [(2, .int s0), (0, .ref a_z), (1, .int y1), (3, .int y3)]) hx hb dX9_isTaken_77 rfl hl (by decide) rfl (fun ls hl => ?_)
    refine lv_iinc (v := y3 + 1) (lv' := [(3, .int (y3 + 1)), (2, .int s0), (0, .ref a_z), (1, .int y1)]) hx hb dX9_isTaken_78 hl (k := 3) rfl rfl (by decide) rfl (fun ls hl => ?_)
    refine lv_goto (tgt := 50) hx hb dX9_isTaken_81 (by decide) ?_
    exact hk50 y1 s0 (y3 + 1) h ls (lv_sub (l' := [(0, .ref a_z), (1, .int y1), (2, .int s0), (3, .int (y3 + 1))]) hl [2, 3, 1, 0] rfl)
  have F72 : ∀ (k50 : Int32 → Int32 → Int32 → Option (Int32)) (hk50 : ∀ (u1 : Int32) (u2 : Int32) (u3 : Int32), k50 u1 u2 u3 = some r → ∀ ls : Array Slot, lv_has ls 4 [(0, .ref a_z), (1, .int u1), (2, .int u2), (3, .int u3)] → WP p l e rmX9_isTaken s m av below meth c r 50 ls []), ∀ (y1 : Int32) (y3 : Int32), jX9_isTaken_72 z_s z_changed z_entries z_entryKey k50 y1 y3 = some r → ∀ ls : Array Slot, lv_has ls 4 [(0, .ref a_z), (1, .int y1), (3, .int y3)] → WP p l e rmX9_isTaken s m av below meth c r 72 ls [] := by
    intro k50 hk50
    intro y1 y3 h ls hl
    unfold jX9_isTaken_72 at h
    refine lv_iconst (v := 1) hx hb dX9_isTaken_72 (by decide) ?_
    refine lv_goto (tgt := 77) hx hb dX9_isTaken_73 (by decide) ?_
    exact F77 k50 hk50 y1 y3 1 h ls (lv_sub (l' := [(0, .ref a_z), (1, .int y1), (3, .int y3)]) hl [0, 1, 2] rfl)
  have F50 : ∀ (n : Nat) (y1 : Int32) (y2 : Int32) (y3 : Int32), lX9_isTaken_50 z_s z_changed z_entries z_entryKey n y1 y2 y3 = some r → ∀ ls : Array Slot, lv_has ls 4 [(0, .ref a_z), (1, .int y1), (2, .int y2), (3, .int y3)] → WP p l e rmX9_isTaken s m av below meth c r 50 ls [] := by
    intro n
    induction n with
    | zero => intro y1 y2 y3 h; exact no_some h
    | succ n ih =>
      intro y1 y2 y3 h ls hl
      rw [lX9_isTaken_50_s] at h
      refine lv_iload_n hx hb dX9_isTaken_50 rfl (lv_at hl 3 rfl) ?_
      refine lv_aload_n hx hb dX9_isTaken_51 rfl (lv_at hl 0 rfl) ?_
      refine va_get (D := D) (ci := 9) (v := .int z_entries) (C := RX9) (T := TX9) (N := 13) hx hb hts hinX9 hown hKK.1 hP 0 rfl rfl 4 (by decide) lk151 (fun _ h9 => h9) rfl dX9_isTaken_52 ?_
      refine lv_icmp_ge (tgt := 84) hx hb dX9_isTaken_55 (by decide) (fun c1 => ?_) (fun c1 => ?_)
      · have h := ifp h c1
        refine lv_iload_n hx hb dX9_isTaken_84 rfl (lv_at hl 2 rfl) ?_
        exact kRetZ hx hb hr hlk (rb_some h).2 (rb_some h).1 dX9_isTaken_85
      · have h := ifn h c1
        refine lv_iload_n hx hb dX9_isTaken_58 rfl (lv_at hl 2 rfl) ?_
        refine lv_if_ne (tgt := 72) hx hb dX9_isTaken_59 (by decide) (fun c2 => ?_) (fun c2 => ?_)
        · have h := ifn h c2
          exact F72 (fun u1 u2 u3 => lX9_isTaken_50 z_s z_changed z_entries z_entryKey n u1 u2 u3) (fun u1 u2 u3 h ls hl => ih u1 u2 u3 h ls hl) y1 y3 h ls (lv_sub (l' := [(0, .ref a_z), (1, .int y1), (3, .int y3)]) hl [0, 1, 3] rfl)
        · have h := ifp h c2
          refine lv_aload_n hx hb dX9_isTaken_62 rfl (lv_at hl 0 rfl) ?_
          refine va_get (D := D) (ci := 9) (v := .ref a_z_entryKey) (C := RX9) (T := TX9) (N := 13) hx hb hts hinX9 hown hKK.1 hP 0 rfl rfl 6 (by decide) lk23 (fun _ h9 => h9) rfl dX9_isTaken_63 ?_
          refine lv_iload_n hx hb dX9_isTaken_66 rfl (lv_at hl 3 rfl) ?_
          obtain ⟨v3, iv3, ev3, h⟩ := rd_some h
          refine kAld hx hb hKK hP 4 rfl iv3 ev3 dX9_isTaken_67 ?_
          refine lv_iload_n hx hb dX9_isTaken_68 rfl (lv_at hl 1 rfl) ?_
          refine lv_icmp_ne (tgt := 76) hx hb dX9_isTaken_69 (by decide) (fun c4 => ?_) (fun c4 => ?_)
          · have h := ifn h c4
            refine lv_iconst (v := 0) hx hb dX9_isTaken_76 (by decide) ?_
            exact F77 (fun u1 u2 u3 => lX9_isTaken_50 z_s z_changed z_entries z_entryKey n u1 u2 u3) (fun u1 u2 u3 h ls hl => ih u1 u2 u3 h ls hl) y1 y3 0 h ls (lv_sub (l' := [(0, .ref a_z), (1, .int y1), (3, .int y3)]) hl [0, 1, 3] rfl)
          · have h := ifp h c4
            exact F72 (fun u1 u2 u3 => lX9_isTaken_50 z_s z_changed z_entries z_entryKey n u1 u2 u3) (fun u1 u2 u3 h ls hl => ih u1 u2 u3 h ls hl) y1 y3 h ls (lv_sub (l' := [(0, .ref a_z), (1, .int y1), (3, .int y3)]) hl [0, 1, 3] rfl)
  have F41 : ∀ (k4 : Int32 → Int32 → Int32 → Option (Int32)) (hk4 : ∀ (u1 : Int32) (u2 : Int32) (u3 : Int32), k4 u1 u2 u3 = some r → ∀ ls : Array Slot, lv_has ls 4 [(0, .ref a_z), (1, .int u1), (2, .int u2), (3, .int u3)] → WP p l e rmX9_isTaken s m av below meth c r 4 ls []), ∀ (y1 : Int32) (y3 : Int32) (s0 : Int32), jX9_isTaken_41 z_s z_changed z_entries z_entryKey k4 y1 y3 s0 = some r → ∀ ls : Array Slot, lv_has ls 4 [(0, .ref a_z), (1, .int y1), (3, .int y3)] → WP p l e rmX9_isTaken s m av below meth c r 41 ls [.int s0] := by
    intro k4 hk4
    intro y1 y3 s0 h ls hl
    unfold jX9_isTaken_41 at h
    refine lv_istore_n (lv' := [(2, .int s0), (0, .ref a_z), (1, .int y1), (3, .int y3)]) hx hb dX9_isTaken_41 rfl hl (by decide) rfl (fun ls hl => ?_)
    refine lv_iinc (v := y3 + 1) (lv' := [(3, .int (y3 + 1)), (2, .int s0), (0, .ref a_z), (1, .int y1)]) hx hb dX9_isTaken_42 hl (k := 3) rfl rfl (by decide) rfl (fun ls hl => ?_)
    refine lv_goto (tgt := 4) hx hb dX9_isTaken_45 (by decide) ?_
    exact hk4 y1 s0 (y3 + 1) h ls (lv_sub (l' := [(0, .ref a_z), (1, .int y1), (2, .int s0), (3, .int (y3 + 1))]) hl [2, 3, 1, 0] rfl)
  have F36 : ∀ (k4 : Int32 → Int32 → Int32 → Option (Int32)) (hk4 : ∀ (u1 : Int32) (u2 : Int32) (u3 : Int32), k4 u1 u2 u3 = some r → ∀ ls : Array Slot, lv_has ls 4 [(0, .ref a_z), (1, .int u1), (2, .int u2), (3, .int u3)] → WP p l e rmX9_isTaken s m av below meth c r 4 ls []), ∀ (y1 : Int32) (y3 : Int32), jX9_isTaken_36 z_s z_changed z_entries z_entryKey k4 y1 y3 = some r → ∀ ls : Array Slot, lv_has ls 4 [(0, .ref a_z), (1, .int y1), (3, .int y3)] → WP p l e rmX9_isTaken s m av below meth c r 36 ls [] := by
    intro k4 hk4
    intro y1 y3 h ls hl
    unfold jX9_isTaken_36 at h
    refine lv_iconst (v := 1) hx hb dX9_isTaken_36 (by decide) ?_
    refine lv_goto (tgt := 41) hx hb dX9_isTaken_37 (by decide) ?_
    exact F41 k4 hk4 y1 y3 1 h ls (lv_sub (l' := [(0, .ref a_z), (1, .int y1), (3, .int y3)]) hl [0, 1, 2] rfl)
  have F4 : ∀ (n : Nat) (y1 : Int32) (y2 : Int32) (y3 : Int32), lX9_isTaken_4 z_s z_changed z_entries z_entryKey n y1 y2 y3 = some r → ∀ ls : Array Slot, lv_has ls 4 [(0, .ref a_z), (1, .int y1), (2, .int y2), (3, .int y3)] → WP p l e rmX9_isTaken s m av below meth c r 4 ls [] := by
    intro n
    induction n with
    | zero => intro y1 y2 y3 h; exact no_some h
    | succ n ih =>
      intro y1 y2 y3 h ls hl
      rw [lX9_isTaken_4_s] at h
      refine lv_iload_n hx hb dX9_isTaken_4 rfl (lv_at hl 3 rfl) ?_
      refine lv_aload_n hx hb dX9_isTaken_5 rfl (lv_at hl 0 rfl) ?_
      refine lv_aload_n hx hb dX9_isTaken_6 rfl (lv_at hl 0 rfl) ?_
      refine va_get (D := D) (ci := 9) (v := .int z_changed) (C := RX9) (T := TX9) (N := 13) hx hb hts hinX9 hown hKK.1 hP 0 rfl rfl 3 (by decide) lk16 (fun _ h9 => h9) rfl dX9_isTaken_7 ?_
      refine lv_iconst (v := 2) hx hb dX9_isTaken_10 (by decide) ?_
      obtain ⟨v1, ev1, h⟩ := bn_some h
      have hs2 : va_P D vwCl (W_z cI cM a_z a_z_s a_z_past a_z_keeps a_z_entryKey a_z_entryDefault a_z_held a_z_values a_z_kinds a_z_news z_s z_past z_pasts z_changed z_entries z_keeps z_entryKey z_entryDefault z_counter z_held z_values z_kinds z_news) _ := hP.sub (ws' := W_z cI cM a_z a_z_s a_z_past a_z_keeps a_z_entryKey a_z_entryDefault a_z_held a_z_values a_z_kinds a_z_news z_s z_past z_pasts z_changed z_entries z_keeps z_entryKey z_entryDefault z_counter z_held z_values z_kinds z_news) [0, 1, 2, 3, 4, 5, 6, 7, 8, 9] rfl
      refine kV (As := [.int z_changed, .int 2]) (rest := [.int y3]) SS hKK (qX9_of l D cI cM a_z a_z_s a_z_past a_z_keeps a_z_entryKey a_z_entryDefault a_z_held a_z_values a_z_kinds a_z_news z_s z_past z_pasts z_changed z_entries z_keeps z_entryKey z_entryDefault z_counter z_held z_values z_kinds z_news z_changed 2 v1 ev1) cw63 hs2 0 9 rfl rfl rfl hl.1 rfl (Nat.le_of_ble_eq_true rfl) dX9_isTaken_11 ⟨Nat.zero_le _, Nat.zero_le _⟩ ?_
      refine lv_icmp_ge (tgt := 48) hx hb dX9_isTaken_14 (by decide) (fun c3 => ?_) (fun c3 => ?_)
      · have h := ifp h c3
        refine lv_iconst (v := 0) hx hb dX9_isTaken_48 (by decide) ?_
        refine lv_istore_n (lv' := [(3, .int 0), (0, .ref a_z), (1, .int y1), (2, .int y2)]) hx hb dX9_isTaken_49 rfl hl (by decide) rfl (fun ls hl => ?_)
        exact F50 5000 y1 y2 0 h ls (lv_sub (l' := [(0, .ref a_z), (1, .int y1), (2, .int y2), (3, .int 0)]) hl [1, 2, 3, 0] rfl)
      · have h := ifn h c3
        refine lv_iload_n hx hb dX9_isTaken_17 rfl (lv_at hl 2 rfl) ?_
        refine lv_if_ne (tgt := 36) hx hb dX9_isTaken_18 (by decide) (fun c4 => ?_) (fun c4 => ?_)
        · have h := ifn h c4
          exact F36 (fun u1 u2 u3 => lX9_isTaken_4 z_s z_changed z_entries z_entryKey n u1 u2 u3) (fun u1 u2 u3 h ls hl => ih u1 u2 u3 h ls hl) y1 y3 h ls (lv_sub (l' := [(0, .ref a_z), (1, .int y1), (3, .int y3)]) hl [0, 1, 3] rfl)
        · have h := ifp h c4
          refine lv_aload_n hx hb dX9_isTaken_21 rfl (lv_at hl 0 rfl) ?_
          refine lv_aload_n hx hb dX9_isTaken_22 rfl (lv_at hl 0 rfl) ?_
          refine va_get (D := D) (ci := 9) (v := .int z_changed) (C := RX9) (T := TX9) (N := 13) hx hb hts hinX9 hown hKK.1 hP 0 rfl rfl 3 (by decide) lk16 (fun _ h9 => h9) rfl dX9_isTaken_23 ?_
          refine lv_iconst (v := 3) hx hb dX9_isTaken_26 (by decide) ?_
          refine lv_iload_n hx hb dX9_isTaken_27 rfl (lv_at hl 3 rfl) ?_
          refine lv_iadd hx hb dX9_isTaken_28 ?_
          obtain ⟨v5, ev5, h⟩ := bn_some h
          refine kV (As := [.int z_changed, .int (3 + y3)]) (rest := []) SS hKK (qX9_of l D cI cM a_z a_z_s a_z_past a_z_keeps a_z_entryKey a_z_entryDefault a_z_held a_z_values a_z_kinds a_z_news z_s z_past z_pasts z_changed z_entries z_keeps z_entryKey z_entryDefault z_counter z_held z_values z_kinds z_news z_changed (3 + y3) v5 ev5) cw63 hs2 0 9 rfl rfl rfl hl.1 rfl (Nat.le_of_ble_eq_true rfl) dX9_isTaken_29 ⟨Nat.zero_le _, Nat.zero_le _⟩ ?_
          refine lv_iload_n hx hb dX9_isTaken_32 rfl (lv_at hl 1 rfl) ?_
          refine lv_icmp_ne (tgt := 40) hx hb dX9_isTaken_33 (by decide) (fun c6 => ?_) (fun c6 => ?_)
          · have h := ifn h c6
            refine lv_iconst (v := 0) hx hb dX9_isTaken_40 (by decide) ?_
            exact F41 (fun u1 u2 u3 => lX9_isTaken_4 z_s z_changed z_entries z_entryKey n u1 u2 u3) (fun u1 u2 u3 h ls hl => ih u1 u2 u3 h ls hl) y1 y3 0 h ls (lv_sub (l' := [(0, .ref a_z), (1, .int y1), (3, .int y3)]) hl [0, 1, 3] rfl)
          · have h := ifp h c6
            exact F36 (fun u1 u2 u3 => lX9_isTaken_4 z_s z_changed z_entries z_entryKey n u1 u2 u3) (fun u1 u2 u3 h ls hl => ih u1 u2 u3 h ls hl) y1 y3 h ls (lv_sub (l' := [(0, .ref a_z), (1, .int y1), (3, .int y3)]) hl [0, 1, 3] rfl)
  unfold fX9_isTaken at h
  refine lv_iconst (v := 0) hx hb dX9_isTaken_0 (by decide) ?_
  refine lv_istore_n (lv' := [(2, .int 0), (0, .ref a_z), (1, .int x1)]) hx hb dX9_isTaken_1 rfl hl (by decide) rfl (fun ls hl => ?_)
  refine lv_iconst (v := 0) hx hb dX9_isTaken_2 (by decide) ?_
  refine lv_istore_n (lv' := [(3, .int 0), (2, .int 0), (0, .ref a_z), (1, .int x1)]) hx hb dX9_isTaken_3 rfl hl (by decide) rfl (fun ls hl => ?_)
  exact F4 5000 x1 0 0 h ls (lv_sub (l' := [(0, .ref a_z), (1, .int x1), (2, .int 0), (3, .int 0)]) hl [2, 3, 1, 0] rfl)
set_option maxHeartbeats 8000000 in
set_option maxRecDepth 100000 in
theorem qX9_insertParameter (l : Launch) (D : va_G) (cI cM : ClassId) (a_z a_z_s a_z_past a_z_keeps a_z_entryKey a_z_entryDefault a_z_held a_z_values a_z_kinds a_z_news : Nat) (z_s : Nat → Int32) (z_past : Nat → Int32) (z_pasts : Int32) (z_changed : Int32) (z_entries : Int32) (z_keeps : Nat → Int32) (z_entryKey : Nat → Int32) (z_entryDefault : Nat → Int32) (z_counter : Int32) (z_held : Nat → Int32) (z_values : Nat → Int32) (z_kinds : Nat → Int32) (z_news : Nat → Int32) (x1 : Int32) (r : Int32) (r_z_entries : Int32) (r_z_keeps : Nat → Int32) (r_z_entryKey : Nat → Int32) (r_z_entryDefault : Nat → Int32) (h : fX9_insertParameter z_s z_changed z_entries z_keeps z_entryKey z_entryDefault x1 = some (r, r_z_entries, r_z_keeps, r_z_entryKey, r_z_entryDefault)) : IM l yX9_insertParameter wsX9_insertParameter rmX9_insertParameter D cI cM [.ref a_z, .int x1] (W_z cI cM a_z a_z_s a_z_past a_z_keeps a_z_entryKey a_z_entryDefault a_z_held a_z_values a_z_kinds a_z_news z_s z_past z_pasts z_changed z_entries z_keeps z_entryKey z_entryDefault z_counter z_held z_values z_kinds z_news) (W_z cI cM a_z a_z_s a_z_past a_z_keeps a_z_entryKey a_z_entryDefault a_z_held a_z_values a_z_kinds a_z_news z_s z_past z_pasts z_changed r_z_entries r_z_keeps r_z_entryKey r_z_entryDefault z_counter z_held z_values z_kinds z_news) (some (.int r)) := by
  refine IM.of (cc := cX9_insertParameter) (maxL := 3) (ret := (some .int)) (by decide) rfl (Nat.le_of_ble_eq_true rfl) ?_
  intro p e s m below meth c ls hx hb hr hml hown hts hlk hKK hP hD hS hl
  have hown : s.vm.findClass RX9 = some m.cls := hown
  have hl : lv_has ls 3 [(0, .ref a_z), (1, .int x1)] := hl
  generalize hav : ([.ref a_z, .int x1] : List Value) = av at hts ⊢
  generalize hw1 : W_z cI cM a_z a_z_s a_z_past a_z_keeps a_z_entryKey a_z_entryDefault a_z_held a_z_values a_z_kinds a_z_news z_s z_past z_pasts z_changed r_z_entries r_z_keeps r_z_entryKey r_z_entryDefault z_counter z_held z_values z_kinds z_news = w1
  generalize hw0 : W_z cI cM a_z a_z_s a_z_past a_z_keeps a_z_entryKey a_z_entryDefault a_z_held a_z_values a_z_kinds a_z_news z_s z_past z_pasts z_changed z_entries z_keeps z_entryKey z_entryDefault z_counter z_held z_values z_kinds z_news = w0 at hD hS ⊢
  have hP : va_P D vwCl (W_z cI cM a_z a_z_s a_z_past a_z_keeps a_z_entryKey a_z_entryDefault a_z_held a_z_values a_z_kinds a_z_news z_s z_past z_pasts z_changed z_entries z_keeps z_entryKey z_entryDefault z_counter z_held z_values z_kinds z_news) s.heap := hP
  have hD : va_D (fun q => q ∈ w0.map (·.1)) (W_z cI cM a_z a_z_s a_z_past a_z_keeps a_z_entryKey a_z_entryDefault a_z_held a_z_values a_z_kinds a_z_news z_s z_past z_pasts z_changed z_entries z_keeps z_entryKey z_entryDefault z_counter z_held z_values z_kinds z_news) := by rw [hw0]; exact hD
  have SS : CallFix p m c cX9_insertParameter 3 s av.toArray wsX9_insertParameter RX9 := ⟨hx, hb, hml, hown, hts⟩
  have hinX9 : ∀ w ∈ u_ws RX9 TX9 13, w ∈ wsX9_insertParameter := by decide +kernel
  have lk16 := hts (.fieldLink RX9 16 "SignatureChangerModel" "changed" "I") (List.mem_of_getElem? (i := 1) rfl)
  have lk20 := hts (.fieldLink RX9 20 "SignatureChangerModel" "keeps" "[I") (List.mem_of_getElem? (i := 3) rfl)
  have lk23 := hts (.fieldLink RX9 23 "SignatureChangerModel" "entryKey" "[I") (List.mem_of_getElem? (i := 4) rfl)
  have lk26 := hts (.fieldLink RX9 26 "SignatureChangerModel" "entryDefault" "[I") (List.mem_of_getElem? (i := 5) rfl)
  have lk151 := hts (.fieldLink RX9 151 "SignatureChangerModel" "entries" "I") (List.mem_of_getElem? (i := 2) rfl)
  have cw44 : CallB rmX9_insertParameter s av.toArray RX9 44 yX9_in cX9_in 3 (some .boolean) wsX9_in rmX9_in 0 0 3 ∧ (Cond.static yX9_in).before av.toArray s = true := va_cwS 3 hts gX9_insertParameter_X9_in rfl rfl rfl (by decide +kernel) ⟨Nat.le_of_ble_eq_true rfl, Nat.le_of_ble_eq_true rfl⟩
  have cw160 : CallW rmX9_insertParameter s av.toArray RX9 RX9 160 yX9_isTaken cX9_isTaken 4 (some .boolean) wsX9_isTaken rmX9_isTaken 0 0 1 := cwV 1 hts gX9_insertParameter_X9_isTaken rfl rfl rfl (by decide +kernel) ⟨Nat.le_of_ble_eq_true rfl, Nat.le_of_ble_eq_true rfl⟩
  have F38 : ∀ (n : Nat) (H : Heap) (locs : List Loc) (z_entries : Int32) (z_keeps : Nat → Int32) (z_entryKey : Nat → Int32) (z_entryDefault : Nat → Int32) (y1 : Int32) (y2 : Int32), lX9_insertParameter_38 z_s z_changed n z_entries z_keeps z_entryKey z_entryDefault y1 y2 = some (r, r_z_entries, r_z_keeps, r_z_entryKey, r_z_entryDefault) → va_P D vwCl (W_z cI cM a_z a_z_s a_z_past a_z_keeps a_z_entryKey a_z_entryDefault a_z_held a_z_values a_z_kinds a_z_news z_s z_past z_pasts z_changed z_entries z_keeps z_entryKey z_entryDefault z_counter z_held z_values z_kinds z_news) H → va_D (fun q => q ∈ (w0).map (·.1)) (W_z cI cM a_z a_z_s a_z_past a_z_keeps a_z_entryKey a_z_entryDefault a_z_held a_z_values a_z_kinds a_z_news z_s z_past z_pasts z_changed z_entries z_keeps z_entryKey z_entryDefault z_counter z_held z_values z_kinds z_news) → va_S (fun q => q ∈ (w0).map (·.1)) s.heap H locs → ∀ ls : Array Slot, lv_has ls 3 [(0, .ref a_z), (1, .int y1), (2, .int y2)] → WI p l e rmX9_insertParameter s m av below meth c D w0 w1 (some (.int r)) H locs 38 ls [] := by
    intro n
    induction n with
    | zero => intro H locs z_entries z_keeps z_entryKey z_entryDefault y1 y2 h; exact no_some h
    | succ n ih =>
      intro H locs z_entries z_keeps z_entryKey z_entryDefault y1 y2 h hP hD hS ls hl
      rw [lX9_insertParameter_38_s] at h
      refine lv_aload_n hx hb dX9_insertParameter_38 rfl (lv_at hl 0 rfl) ?_
      refine lv_iload_n hx hb dX9_insertParameter_39 rfl (lv_at hl 2 rfl) ?_
      obtain ⟨v1, ev1, h⟩ := bn_some h
      have hs2 : va_P D vwCl (W_z cI cM a_z a_z_s a_z_past a_z_keeps a_z_entryKey a_z_entryDefault a_z_held a_z_values a_z_kinds a_z_news z_s z_past z_pasts z_changed z_entries z_keeps z_entryKey z_entryDefault z_counter z_held z_values z_kinds z_news) _ := hP.sub (ws' := W_z cI cM a_z a_z_s a_z_past a_z_keeps a_z_entryKey a_z_entryDefault a_z_held a_z_values a_z_kinds a_z_news z_s z_past z_pasts z_changed z_entries z_keeps z_entryKey z_entryDefault z_counter z_held z_values z_kinds z_news) [0, 1, 2, 3, 4, 5, 6, 7, 8, 9] rfl
      refine kV (As := [.int y2]) (rest := []) SS hKK (qX9_isTaken l D cI cM a_z a_z_s a_z_past a_z_keeps a_z_entryKey a_z_entryDefault a_z_held a_z_values a_z_kinds a_z_news z_s z_past z_pasts z_changed z_entries z_keeps z_entryKey z_entryDefault z_counter z_held z_values z_kinds z_news y2 v1 ev1) cw160 hs2 0 9 rfl rfl rfl hl.1 rfl (Nat.le_of_ble_eq_true rfl) dX9_insertParameter_40 ⟨Nat.zero_le _, Nat.zero_le _⟩ ?_
      refine lv_if_eq (tgt := 52) hx hb dX9_insertParameter_43 (by decide) (fun c3 => ?_) (fun c3 => ?_)
      · have h := ifp h c3
        refine lv_aload_n hx hb dX9_insertParameter_52 rfl (lv_at hl 0 rfl) ?_
        refine va_get (D := D) (ci := 9) (v := .ref a_z_keeps) (C := RX9) (T := TX9) (N := 13) hx hb hts hinX9 hown hKK.1 hP 0 rfl rfl 5 (by decide) lk20 (fun _ h9 => h9) rfl dX9_insertParameter_53 ?_
        refine lv_aload_n hx hb dX9_insertParameter_56 rfl (lv_at hl 0 rfl) ?_
        refine va_get (D := D) (ci := 9) (v := .int z_entries) (C := RX9) (T := TX9) (N := 13) hx hb hts hinX9 hown hKK.1 hP 0 rfl rfl 4 (by decide) lk151 (fun _ h9 => h9) rfl dX9_insertParameter_57 ?_
        refine lv_bipush (v := (-9)) hx hb dX9_insertParameter_60 (by decide) ?_
        obtain ⟨g4, ig4, eg4, h⟩ := wr_some h
        refine kAst hx hb hKK hP hD hS 3 rfl ig4 eg4 dX9_insertParameter_62 (fun H locs hP hD hS => ?_)
        have hP : va_P D vwCl (W_z cI cM a_z a_z_s a_z_past a_z_keeps a_z_entryKey a_z_entryDefault a_z_held a_z_values a_z_kinds a_z_news z_s z_past z_pasts z_changed z_entries g4 z_entryKey z_entryDefault z_counter z_held z_values z_kinds z_news) H := hP
        have hD : va_D _ (W_z cI cM a_z a_z_s a_z_past a_z_keeps a_z_entryKey a_z_entryDefault a_z_held a_z_values a_z_kinds a_z_news z_s z_past z_pasts z_changed z_entries g4 z_entryKey z_entryDefault z_counter z_held z_values z_kinds z_news) := hD
        refine lv_aload_n hx hb dX9_insertParameter_63 rfl (lv_at hl 0 rfl) ?_
        refine va_get (D := D) (ci := 9) (v := .ref a_z_entryKey) (C := RX9) (T := TX9) (N := 13) hx hb hts hinX9 hown hKK.1 hP 0 rfl rfl 6 (by decide) lk23 (fun _ h9 => h9) rfl dX9_insertParameter_64 ?_
        refine lv_aload_n hx hb dX9_insertParameter_67 rfl (lv_at hl 0 rfl) ?_
        refine va_get (D := D) (ci := 9) (v := .int z_entries) (C := RX9) (T := TX9) (N := 13) hx hb hts hinX9 hown hKK.1 hP 0 rfl rfl 4 (by decide) lk151 (fun _ h9 => h9) rfl dX9_insertParameter_68 ?_
        refine lv_iload_n hx hb dX9_insertParameter_71 rfl (lv_at hl 2 rfl) ?_
        obtain ⟨g5, ig5, eg5, h⟩ := wr_some h
        refine kAst hx hb hKK hP hD hS 4 rfl ig5 eg5 dX9_insertParameter_72 (fun H locs hP hD hS => ?_)
        have hP : va_P D vwCl (W_z cI cM a_z a_z_s a_z_past a_z_keeps a_z_entryKey a_z_entryDefault a_z_held a_z_values a_z_kinds a_z_news z_s z_past z_pasts z_changed z_entries g4 g5 z_entryDefault z_counter z_held z_values z_kinds z_news) H := hP
        have hD : va_D _ (W_z cI cM a_z a_z_s a_z_past a_z_keeps a_z_entryKey a_z_entryDefault a_z_held a_z_values a_z_kinds a_z_news z_s z_past z_pasts z_changed z_entries g4 g5 z_entryDefault z_counter z_held z_values z_kinds z_news) := hD
        refine lv_aload_n hx hb dX9_insertParameter_73 rfl (lv_at hl 0 rfl) ?_
        refine va_get (D := D) (ci := 9) (v := .ref a_z_entryDefault) (C := RX9) (T := TX9) (N := 13) hx hb hts hinX9 hown hKK.1 hP 0 rfl rfl 7 (by decide) lk26 (fun _ h9 => h9) rfl dX9_insertParameter_74 ?_
        refine lv_aload_n hx hb dX9_insertParameter_77 rfl (lv_at hl 0 rfl) ?_
        refine va_get (D := D) (ci := 9) (v := .int z_entries) (C := RX9) (T := TX9) (N := 13) hx hb hts hinX9 hown hKK.1 hP 0 rfl rfl 4 (by decide) lk151 (fun _ h9 => h9) rfl dX9_insertParameter_78 ?_
        refine lv_iload_n hx hb dX9_insertParameter_81 rfl (lv_at hl 1 rfl) ?_
        obtain ⟨g6, ig6, eg6, h⟩ := wr_some h
        refine kAst hx hb hKK hP hD hS 5 rfl ig6 eg6 dX9_insertParameter_82 (fun H locs hP hD hS => ?_)
        have hP : va_P D vwCl (W_z cI cM a_z a_z_s a_z_past a_z_keeps a_z_entryKey a_z_entryDefault a_z_held a_z_values a_z_kinds a_z_news z_s z_past z_pasts z_changed z_entries g4 g5 g6 z_counter z_held z_values z_kinds z_news) H := hP
        have hD : va_D _ (W_z cI cM a_z a_z_s a_z_past a_z_keeps a_z_entryKey a_z_entryDefault a_z_held a_z_values a_z_kinds a_z_news z_s z_past z_pasts z_changed z_entries g4 g5 g6 z_counter z_held z_values z_kinds z_news) := hD
        refine lv_aload_n hx hb dX9_insertParameter_83 rfl (lv_at hl 0 rfl) ?_
        refine lv_dup hx hb dX9_insertParameter_84 rfl ?_
        refine va_get (D := D) (ci := 9) (v := .int z_entries) (C := RX9) (T := TX9) (N := 13) hx hb hts hinX9 hown hKK.1 hP 0 rfl rfl 4 (by decide) lk151 (fun _ h9 => h9) rfl dX9_insertParameter_85 ?_
        refine lv_iconst (v := 1) hx hb dX9_insertParameter_88 (by decide) ?_
        refine lv_iadd hx hb dX9_insertParameter_89 ?_
        refine va_put (D := D) (ci := 9) (v := .int (z_entries + 1)) (ty := .int) (C := RX9) (T := TX9) (N := 13) hx hb hts hinX9 tyX9 tyX9_ok nmX9 hown hKK.1 hP hD hS 0 rfl rfl 4 (by decide) lk151 (fun _ h9 => h9) rfl (by decide +kernel) rfl rfl (Nat.le_of_ble_eq_true rfl) dX9_insertParameter_90 (fun H locs hP hD hS => ?_)
        have hP : va_P D vwCl (W_z cI cM a_z a_z_s a_z_past a_z_keeps a_z_entryKey a_z_entryDefault a_z_held a_z_values a_z_kinds a_z_news z_s z_past z_pasts z_changed (z_entries + 1) g4 g5 g6 z_counter z_held z_values z_kinds z_news) H := hP
        have hD : va_D _ (W_z cI cM a_z a_z_s a_z_past a_z_keeps a_z_entryKey a_z_entryDefault a_z_held a_z_values a_z_kinds a_z_news z_s z_past z_pasts z_changed (z_entries + 1) g4 g5 g6 z_counter z_held z_values z_kinds z_news) := hD
        refine lv_iload_n hx hb dX9_insertParameter_93 rfl (lv_at hl 2 rfl) ?_
        simp only [Option.some.injEq, Prod.mk.injEq] at h
        obtain ⟨e0, e1, e2, e3, e4⟩ := h
        exact kRetI hx hb hr hlk e0 (by rw [← hw1, ← e1, ← e2, ← e3, ← e4]; exact hP) hS dX9_insertParameter_94
      · have h := ifn h c3
        refine lv_iinc (v := y2 + 1) (lv' := [(2, .int (y2 + 1)), (0, .ref a_z), (1, .int y1)]) hx hb dX9_insertParameter_46 hl (k := 2) rfl rfl (by decide) rfl (fun ls hl => ?_)
        refine lv_goto (tgt := 38) hx hb dX9_insertParameter_49 (by decide) ?_
        exact ih H locs z_entries z_keeps z_entryKey z_entryDefault y1 (y2 + 1) h hP hD hS ls (lv_sub (l' := [(0, .ref a_z), (1, .int y1), (2, .int (y2 + 1))]) hl [1, 2, 0] rfl)
  unfold fX9_insertParameter at h
  refine lv_iload_n hx hb dX9_insertParameter_0 rfl (lv_at hl 1 rfl) ?_
  refine lv_bipush (v := (-99)) hx hb dX9_insertParameter_1 (by decide) ?_
  refine lv_bipush (v := 99) hx hb dX9_insertParameter_3 (by decide) ?_
  obtain ⟨v1, ev1, h⟩ := bn_some h
  refine kS (As := [.int x1, .int (-99), .int 99]) (rest := []) SS hKK (qX9_in l D cI cM x1 (-99) 99 v1 ev1) cw44 va_P_nil rfl hl.1 rfl (Nat.le_of_ble_eq_true rfl) dX9_insertParameter_5 ⟨Nat.zero_le _, Nat.zero_le _⟩ ?_
  refine lv_if_ne (tgt := 13) hx hb dX9_insertParameter_8 (by decide) (fun c2 => ?_) (fun c2 => ?_)
  · have h := ifn h c2
    refine lv_aload_n hx hb dX9_insertParameter_13 rfl (lv_at hl 0 rfl) ?_
    refine va_get (D := D) (ci := 9) (v := .int z_changed) (C := RX9) (T := TX9) (N := 13) hx hb hts hinX9 hown hKK.1 hP 0 rfl rfl 3 (by decide) lk16 (fun _ h9 => h9) rfl dX9_insertParameter_14 ?_
    refine lv_bipush (v := (-9)) hx hb dX9_insertParameter_17 (by decide) ?_
    refine lv_icmp_ne (tgt := 25) hx hb dX9_insertParameter_19 (by decide) (fun c3 => ?_) (fun c3 => ?_)
    · have h := ifn h c3
      refine lv_aload_n hx hb dX9_insertParameter_25 rfl (lv_at hl 0 rfl) ?_
      refine va_get (D := D) (ci := 9) (v := .int z_entries) (C := RX9) (T := TX9) (N := 13) hx hb hts hinX9 hown hKK.1 hP 0 rfl rfl 4 (by decide) lk151 (fun _ h9 => h9) rfl dX9_insertParameter_26 ?_
      refine lv_iconst (v := 5) hx hb dX9_insertParameter_29 (by decide) ?_
      refine lv_icmp_ne (tgt := 36) hx hb dX9_insertParameter_30 (by decide) (fun c4 => ?_) (fun c4 => ?_)
      · have h := ifn h c4
        refine lv_iconst (v := 0) hx hb dX9_insertParameter_36 (by decide) ?_
        refine lv_istore_n (lv' := [(2, .int 0), (0, .ref a_z), (1, .int x1)]) hx hb dX9_insertParameter_37 rfl hl (by decide) rfl (fun ls hl => ?_)
        exact F38 5000 s.heap [] z_entries z_keeps z_entryKey z_entryDefault x1 0 h hP hD hS ls (lv_sub (l' := [(0, .ref a_z), (1, .int x1), (2, .int 0)]) hl [1, 2, 0] rfl)
      · have h := ifp h c4
        refine lv_bipush (v := (-3)) hx hb dX9_insertParameter_33 (by decide) ?_
        simp only [Option.some.injEq, Prod.mk.injEq] at h
        obtain ⟨e0, e1, e2, e3, e4⟩ := h
        exact kRetI hx hb hr hlk e0 (by rw [← hw1, ← e1, ← e2, ← e3, ← e4]; exact hP) hS dX9_insertParameter_35
    · have h := ifp h c3
      refine lv_bipush (v := (-2)) hx hb dX9_insertParameter_22 (by decide) ?_
      simp only [Option.some.injEq, Prod.mk.injEq] at h
      obtain ⟨e0, e1, e2, e3, e4⟩ := h
      exact kRetI hx hb hr hlk e0 (by rw [← hw1, ← e1, ← e2, ← e3, ← e4]; exact hP) hS dX9_insertParameter_24
  · have h := ifp h c2
    refine lv_iconst (v := (-1)) hx hb dX9_insertParameter_11 (by decide) ?_
    simp only [Option.some.injEq, Prod.mk.injEq] at h
    obtain ⟨e0, e1, e2, e3, e4⟩ := h
    exact kRetI hx hb hr hlk e0 (by rw [← hw1, ← e1, ← e2, ← e3, ← e4]; exact hP) hS dX9_insertParameter_12
set_option maxHeartbeats 8000000 in
set_option maxRecDepth 100000 in
theorem qX9_clashes (l : Launch) (D : va_G) (cI cM : ClassId) (a_z a_z_s a_z_past a_z_keeps a_z_entryKey a_z_entryDefault a_z_held a_z_values a_z_kinds a_z_news : Nat) (z_s : Nat → Int32) (z_past : Nat → Int32) (z_pasts : Int32) (z_changed : Int32) (z_entries : Int32) (z_keeps : Nat → Int32) (z_entryKey : Nat → Int32) (z_entryDefault : Nat → Int32) (z_counter : Int32) (z_held : Nat → Int32) (z_values : Nat → Int32) (z_kinds : Nat → Int32) (z_news : Nat → Int32) (x1 : Int32) (x2 : Int32) (r : Int32) (h : fX9_clashes z_s z_changed z_entries x1 x2 = some r) : PM l yX9_clashes wsX9_clashes rmX9_clashes D cI cM [.ref a_z, .int x1, .int x2] (W_z cI cM a_z a_z_s a_z_past a_z_keeps a_z_entryKey a_z_entryDefault a_z_held a_z_values a_z_kinds a_z_news z_s z_past z_pasts z_changed z_entries z_keeps z_entryKey z_entryDefault z_counter z_held z_values z_kinds z_news) r := by
  refine PM.of (cc := cX9_clashes) (maxL := 5) (ret := (some .boolean)) (by decide) rfl (Nat.le_of_ble_eq_true rfl) ?_
  intro p e s m below meth c ls hx hb hr hml hown hts hlk hP hKK hl
  have hown : s.vm.findClass RX9 = some m.cls := hown
  have hl : lv_has ls 5 [(0, .ref a_z), (1, .int x1), (2, .int x2)] := hl
  generalize hav : ([.ref a_z, .int x1, .int x2] : List Value) = av at hts ⊢
  have SS : CallFix p m c cX9_clashes 5 s av.toArray wsX9_clashes RX9 := ⟨hx, hb, hml, hown, hts⟩
  have hinX9 : ∀ w ∈ u_ws RX9 TX9 13, w ∈ wsX9_clashes := by decide +kernel
  have lk7 := hts (.fieldLink RX9 7 "SignatureChangerModel" "s" "[I") (List.mem_of_getElem? (i := 3) rfl)
  have lk16 := hts (.fieldLink RX9 16 "SignatureChangerModel" "changed" "I") (List.mem_of_getElem? (i := 1) rfl)
  have lk151 := hts (.fieldLink RX9 151 "SignatureChangerModel" "entries" "I") (List.mem_of_getElem? (i := 2) rfl)
  have cw48 : CallB rmX9_clashes s av.toArray RX9 48 yX9_has cX9_has 2 (some .boolean) wsX9_has rmX9_has 0 0 2 ∧ (Cond.static yX9_has).before av.toArray s = true := va_cwS 2 hts gX9_clashes_X9_has rfl rfl rfl (by decide +kernel) ⟨Nat.le_of_ble_eq_true rfl, Nat.le_of_ble_eq_true rfl⟩
  have cw63 : CallW rmX9_clashes s av.toArray RX9 RX9 63 yX9_of cX9_of 3 (some .int) wsX9_of rmX9_of 0 0 2 := cwV 2 hts gX9_clashes_X9_of rfl rfl rfl (by decide +kernel) ⟨Nat.le_of_ble_eq_true rfl, Nat.le_of_ble_eq_true rfl⟩
  have cw67 : CallW rmX9_clashes s av.toArray RX9 RX9 67 yX9_isNamed cX9_isNamed 4 (some .boolean) wsX9_isNamed rmX9_isNamed 0 0 3 := cwV 3 hts gX9_clashes_X9_isNamed rfl rfl rfl (by decide +kernel) ⟨Nat.le_of_ble_eq_true rfl, Nat.le_of_ble_eq_true rfl⟩
  have cw89 : CallW rmX9_clashes s av.toArray RX9 RX9 89 yX9_areConnected cX9_areConnected 5 (some .boolean) wsX9_areConnected rmX9_areConnected 0 0 2 := cwV 2 hts gX9_clashes_X9_areConnected rfl rfl rfl (by decide +kernel) ⟨Nat.le_of_ble_eq_true rfl, Nat.le_of_ble_eq_true rfl⟩
  have F86 : ∀ (k36 : Int32 → Int32 → Int32 → Int32 → Option (Int32)) (hk36 : ∀ (u1 : Int32) (u2 : Int32) (u3 : Int32) (u4 : Int32), k36 u1 u2 u3 u4 = some r → ∀ ls : Array Slot, lv_has ls 5 [(0, .ref a_z), (1, .int u1), (2, .int u2), (3, .int u3), (4, .int u4)] → WP p l e rmX9_clashes s m av below meth c r 36 ls []), ∀ (y1 : Int32) (y2 : Int32) (y4 : Int32) (s0 : Int32), jX9_clashes_86 z_s z_changed z_entries k36 y1 y2 y4 s0 = some r → ∀ ls : Array Slot, lv_has ls 5 [(0, .ref a_z), (1, .int y1), (2, .int y2), (4, .int y4)] → WP p l e rmX9_clashes s m av below meth c r 86 ls [.int s0] := by
    intro k36 hk36
    intro y1 y2 y4 s0 h ls hl
    unfold jX9_clashes_86 at h
    refine lv_istore_n (lv' := [(3, .int s0), (0, .ref a_z), (1, .int y1), (2, .int y2), (4, .int y4)]) hx hb dX9_clashes_86 rfl hl (by decide) rfl (fun ls hl => ?_)
    refine lv_iinc (v := y4 + 1) (lv' := [(4, .int (y4 + 1)), (3, .int s0), (0, .ref a_z), (1, .int y1), (2, .int y2)]) hx hb dX9_clashes_87 hl (k := 4) rfl rfl (by decide) rfl (fun ls hl => ?_)
    refine lv_goto (tgt := 36) hx hb dX9_clashes_90 (by decide) ?_
    exact hk36 y1 y2 s0 (y4 + 1) h ls (lv_sub (l' := [(0, .ref a_z), (1, .int y1), (2, .int y2), (3, .int s0), (4, .int (y4 + 1))]) hl [2, 3, 4, 1, 0] rfl)
  have F81 : ∀ (k36 : Int32 → Int32 → Int32 → Int32 → Option (Int32)) (hk36 : ∀ (u1 : Int32) (u2 : Int32) (u3 : Int32) (u4 : Int32), k36 u1 u2 u3 u4 = some r → ∀ ls : Array Slot, lv_has ls 5 [(0, .ref a_z), (1, .int u1), (2, .int u2), (3, .int u3), (4, .int u4)] → WP p l e rmX9_clashes s m av below meth c r 36 ls []), ∀ (y1 : Int32) (y2 : Int32) (y4 : Int32), jX9_clashes_81 z_s z_changed z_entries k36 y1 y2 y4 = some r → ∀ ls : Array Slot, lv_has ls 5 [(0, .ref a_z), (1, .int y1), (2, .int y2), (4, .int y4)] → WP p l e rmX9_clashes s m av below meth c r 81 ls [] := by
    intro k36 hk36
    intro y1 y2 y4 h ls hl
    unfold jX9_clashes_81 at h
    refine lv_iconst (v := 1) hx hb dX9_clashes_81 (by decide) ?_
    refine lv_goto (tgt := 86) hx hb dX9_clashes_82 (by decide) ?_
    exact F86 k36 hk36 y1 y2 y4 1 h ls (lv_sub (l' := [(0, .ref a_z), (1, .int y1), (2, .int y2), (4, .int y4)]) hl [0, 1, 2, 3] rfl)
  have F85 : ∀ (k36 : Int32 → Int32 → Int32 → Int32 → Option (Int32)) (hk36 : ∀ (u1 : Int32) (u2 : Int32) (u3 : Int32) (u4 : Int32), k36 u1 u2 u3 u4 = some r → ∀ ls : Array Slot, lv_has ls 5 [(0, .ref a_z), (1, .int u1), (2, .int u2), (3, .int u3), (4, .int u4)] → WP p l e rmX9_clashes s m av below meth c r 36 ls []), ∀ (y1 : Int32) (y2 : Int32) (y4 : Int32), jX9_clashes_85 z_s z_changed z_entries k36 y1 y2 y4 = some r → ∀ ls : Array Slot, lv_has ls 5 [(0, .ref a_z), (1, .int y1), (2, .int y2), (4, .int y4)] → WP p l e rmX9_clashes s m av below meth c r 85 ls [] := by
    intro k36 hk36
    intro y1 y2 y4 h ls hl
    unfold jX9_clashes_85 at h
    refine lv_iconst (v := 0) hx hb dX9_clashes_85 (by decide) ?_
    exact F86 k36 hk36 y1 y2 y4 0 h ls (lv_sub (l' := [(0, .ref a_z), (1, .int y1), (2, .int y2), (4, .int y4)]) hl [0, 1, 2, 3] rfl)
  have F36 : ∀ (n : Nat) (y1 : Int32) (y2 : Int32) (y3 : Int32) (y4 : Int32), lX9_clashes_36 z_s z_changed z_entries n y1 y2 y3 y4 = some r → ∀ ls : Array Slot, lv_has ls 5 [(0, .ref a_z), (1, .int y1), (2, .int y2), (3, .int y3), (4, .int y4)] → WP p l e rmX9_clashes s m av below meth c r 36 ls [] := by
    intro n
    induction n with
    | zero => intro y1 y2 y3 y4 h; exact no_some h
    | succ n ih =>
      intro y1 y2 y3 y4 h ls hl
      rw [lX9_clashes_36_s] at h
      refine lv_iload hx hb dX9_clashes_36 (lv_at hl 4 rfl) ?_
      refine lv_aload_n hx hb dX9_clashes_38 rfl (lv_at hl 0 rfl) ?_
      refine va_get (D := D) (ci := 9) (v := .ref a_z_s) (C := RX9) (T := TX9) (N := 13) hx hb hts hinX9 hown hKK.1 hP 0 rfl rfl 0 (by decide) lk7 (fun _ h9 => h9) rfl dX9_clashes_39 ?_
      refine lv_bipush (v := 25) hx hb dX9_clashes_42 (by decide) ?_
      obtain ⟨v1, iv1, ev1, h⟩ := rd_some h
      refine kAld hx hb hKK hP 1 rfl iv1 ev1 dX9_clashes_44 ?_
      refine lv_icmp_ge (tgt := 93) hx hb dX9_clashes_45 (by decide) (fun c2 => ?_) (fun c2 => ?_)
      · have h := ifp h c2
        refine lv_iload_n hx hb dX9_clashes_93 rfl (lv_at hl 3 rfl) ?_
        exact kRetZ hx hb hr hlk (rb_some h).2 (rb_some h).1 dX9_clashes_94
      · have h := ifn h c2
        refine lv_iload_n hx hb dX9_clashes_48 rfl (lv_at hl 3 rfl) ?_
        refine lv_if_ne (tgt := 81) hx hb dX9_clashes_49 (by decide) (fun c3 => ?_) (fun c3 => ?_)
        · have h := ifn h c3
          exact F81 (fun u1 u2 u3 u4 => lX9_clashes_36 z_s z_changed z_entries n u1 u2 u3 u4) (fun u1 u2 u3 u4 h ls hl => ih u1 u2 u3 u4 h ls hl) y1 y2 y4 h ls (lv_sub (l' := [(0, .ref a_z), (1, .int y1), (2, .int y2), (4, .int y4)]) hl [0, 1, 2, 4] rfl)
        · have h := ifp h c3
          refine lv_iload_n hx hb dX9_clashes_52 rfl (lv_at hl 2 rfl) ?_
          refine lv_iload hx hb dX9_clashes_53 (lv_at hl 4 rfl) ?_
          obtain ⟨v4, ev4, h⟩ := bn_some h
          refine kS (As := [.int y2, .int y4]) (rest := []) SS hKK (qX9_has l D cI cM y2 y4 v4 ev4) cw48 va_P_nil rfl hl.1 rfl (Nat.le_of_ble_eq_true rfl) dX9_clashes_55 ⟨Nat.zero_le _, Nat.zero_le _⟩ ?_
          refine lv_if_eq (tgt := 85) hx hb dX9_clashes_58 (by decide) (fun c5 => ?_) (fun c5 => ?_)
          · have h := ifp h c5
            exact F85 (fun u1 u2 u3 u4 => lX9_clashes_36 z_s z_changed z_entries n u1 u2 u3 u4) (fun u1 u2 u3 u4 h ls hl => ih u1 u2 u3 u4 h ls hl) y1 y2 y4 h ls (lv_sub (l' := [(0, .ref a_z), (1, .int y1), (2, .int y2), (4, .int y4)]) hl [0, 1, 2, 4] rfl)
          · have h := ifn h c5
            refine lv_aload_n hx hb dX9_clashes_61 rfl (lv_at hl 0 rfl) ?_
            refine lv_aload_n hx hb dX9_clashes_62 rfl (lv_at hl 0 rfl) ?_
            refine lv_iload_n hx hb dX9_clashes_63 rfl (lv_at hl 1 rfl) ?_
            refine lv_iconst (v := 0) hx hb dX9_clashes_64 (by decide) ?_
            obtain ⟨v6, ev6, h⟩ := bn_some h
            have hs7 : va_P D vwCl (W_z cI cM a_z a_z_s a_z_past a_z_keeps a_z_entryKey a_z_entryDefault a_z_held a_z_values a_z_kinds a_z_news z_s z_past z_pasts z_changed z_entries z_keeps z_entryKey z_entryDefault z_counter z_held z_values z_kinds z_news) _ := hP.sub (ws' := W_z cI cM a_z a_z_s a_z_past a_z_keeps a_z_entryKey a_z_entryDefault a_z_held a_z_values a_z_kinds a_z_news z_s z_past z_pasts z_changed z_entries z_keeps z_entryKey z_entryDefault z_counter z_held z_values z_kinds z_news) [0, 1, 2, 3, 4, 5, 6, 7, 8, 9] rfl
            refine kV (As := [.int y1, .int 0]) (rest := [.ref a_z]) SS hKK (qX9_of l D cI cM a_z a_z_s a_z_past a_z_keeps a_z_entryKey a_z_entryDefault a_z_held a_z_values a_z_kinds a_z_news z_s z_past z_pasts z_changed z_entries z_keeps z_entryKey z_entryDefault z_counter z_held z_values z_kinds z_news y1 0 v6 ev6) cw63 hs7 0 9 rfl rfl rfl hl.1 rfl (Nat.le_of_ble_eq_true rfl) dX9_clashes_65 ⟨Nat.zero_le _, Nat.zero_le _⟩ ?_
            refine lv_aload_n hx hb dX9_clashes_68 rfl (lv_at hl 0 rfl) ?_
            refine lv_iload hx hb dX9_clashes_69 (lv_at hl 4 rfl) ?_
            refine lv_iconst (v := 0) hx hb dX9_clashes_71 (by decide) ?_
            obtain ⟨v8, ev8, h⟩ := bn_some h
            refine kV (As := [.int y4, .int 0]) (rest := [.int v6, .ref a_z]) SS hKK (qX9_of l D cI cM a_z a_z_s a_z_past a_z_keeps a_z_entryKey a_z_entryDefault a_z_held a_z_values a_z_kinds a_z_news z_s z_past z_pasts z_changed z_entries z_keeps z_entryKey z_entryDefault z_counter z_held z_values z_kinds z_news y4 0 v8 ev8) cw63 hs7 0 9 rfl rfl rfl hl.1 rfl (Nat.le_of_ble_eq_true rfl) dX9_clashes_72 ⟨Nat.zero_le _, Nat.zero_le _⟩ ?_
            obtain ⟨v9, ev9, h⟩ := bn_some h
            refine kV (As := [.int v6, .int v8]) (rest := []) SS hKK (qX9_areConnected l D cI cM a_z a_z_s a_z_past a_z_keeps a_z_entryKey a_z_entryDefault a_z_held a_z_values a_z_kinds a_z_news z_s z_past z_pasts z_changed z_entries z_keeps z_entryKey z_entryDefault z_counter z_held z_values z_kinds z_news v6 v8 v9 ev9) cw89 hs7 0 9 rfl rfl rfl hl.1 rfl (Nat.le_of_ble_eq_true rfl) dX9_clashes_75 ⟨Nat.zero_le _, Nat.zero_le _⟩ ?_
            refine lv_if_eq (tgt := 85) hx hb dX9_clashes_78 (by decide) (fun c10 => ?_) (fun c10 => ?_)
            · have h := ifp h c10
              exact F85 (fun u1 u2 u3 u4 => lX9_clashes_36 z_s z_changed z_entries n u1 u2 u3 u4) (fun u1 u2 u3 u4 h ls hl => ih u1 u2 u3 u4 h ls hl) y1 y2 y4 h ls (lv_sub (l' := [(0, .ref a_z), (1, .int y1), (2, .int y2), (4, .int y4)]) hl [0, 1, 2, 4] rfl)
            · have h := ifn h c10
              exact F81 (fun u1 u2 u3 u4 => lX9_clashes_36 z_s z_changed z_entries n u1 u2 u3 u4) (fun u1 u2 u3 u4 h ls hl => ih u1 u2 u3 u4 h ls hl) y1 y2 y4 h ls (lv_sub (l' := [(0, .ref a_z), (1, .int y1), (2, .int y2), (4, .int y4)]) hl [0, 1, 2, 4] rfl)
  unfold fX9_clashes at h
  refine lv_iload_n hx hb dX9_clashes_0 rfl (lv_at hl 2 rfl) ?_
  refine lv_iload_n hx hb dX9_clashes_1 rfl (lv_at hl 1 rfl) ?_
  obtain ⟨v1, ev1, h⟩ := bn_some h
  refine kS (As := [.int x2, .int x1]) (rest := []) SS hKK (qX9_has l D cI cM x2 x1 v1 ev1) cw48 va_P_nil rfl hl.1 rfl (Nat.le_of_ble_eq_true rfl) dX9_clashes_2 ⟨Nat.zero_le _, Nat.zero_le _⟩ ?_
  refine lv_if_ne (tgt := 29) hx hb dX9_clashes_5 (by decide) (fun c2 => ?_) (fun c2 => ?_)
  · have h := ifn h c2
    refine lv_iconst (v := 0) hx hb dX9_clashes_29 (by decide) ?_
    exact kRetZ hx hb hr hlk rfl (Option.some.inj h) dX9_clashes_30
  · have h := ifp h c2
    refine lv_aload_n hx hb dX9_clashes_8 rfl (lv_at hl 0 rfl) ?_
    refine lv_iload_n hx hb dX9_clashes_9 rfl (lv_at hl 1 rfl) ?_
    refine lv_aload_n hx hb dX9_clashes_10 rfl (lv_at hl 0 rfl) ?_
    refine lv_aload_n hx hb dX9_clashes_11 rfl (lv_at hl 0 rfl) ?_
    refine va_get (D := D) (ci := 9) (v := .int z_changed) (C := RX9) (T := TX9) (N := 13) hx hb hts hinX9 hown hKK.1 hP 0 rfl rfl 3 (by decide) lk16 (fun _ h9 => h9) rfl dX9_clashes_12 ?_
    refine lv_iconst (v := 1) hx hb dX9_clashes_15 (by decide) ?_
    obtain ⟨v3, ev3, h⟩ := bn_some h
    have hs4 : va_P D vwCl (W_z cI cM a_z a_z_s a_z_past a_z_keeps a_z_entryKey a_z_entryDefault a_z_held a_z_values a_z_kinds a_z_news z_s z_past z_pasts z_changed z_entries z_keeps z_entryKey z_entryDefault z_counter z_held z_values z_kinds z_news) _ := hP.sub (ws' := W_z cI cM a_z a_z_s a_z_past a_z_keeps a_z_entryKey a_z_entryDefault a_z_held a_z_values a_z_kinds a_z_news z_s z_past z_pasts z_changed z_entries z_keeps z_entryKey z_entryDefault z_counter z_held z_values z_kinds z_news) [0, 1, 2, 3, 4, 5, 6, 7, 8, 9] rfl
    refine kV (As := [.int z_changed, .int 1]) (rest := [.int x1, .ref a_z]) SS hKK (qX9_of l D cI cM a_z a_z_s a_z_past a_z_keeps a_z_entryKey a_z_entryDefault a_z_held a_z_values a_z_kinds a_z_news z_s z_past z_pasts z_changed z_entries z_keeps z_entryKey z_entryDefault z_counter z_held z_values z_kinds z_news z_changed 1 v3 ev3) cw63 hs4 0 9 rfl rfl rfl hl.1 rfl (Nat.le_of_ble_eq_true rfl) dX9_clashes_16 ⟨Nat.zero_le _, Nat.zero_le _⟩ ?_
    refine lv_aload_n hx hb dX9_clashes_19 rfl (lv_at hl 0 rfl) ?_
    refine va_get (D := D) (ci := 9) (v := .int z_entries) (C := RX9) (T := TX9) (N := 13) hx hb hts hinX9 hown hKK.1 hP 0 rfl rfl 4 (by decide) lk151 (fun _ h9 => h9) rfl dX9_clashes_20 ?_
    obtain ⟨v5, ev5, h⟩ := bn_some h
    refine kV (As := [.int x1, .int v3, .int z_entries]) (rest := []) SS hKK (qX9_isNamed l D cI cM a_z a_z_s a_z_past a_z_keeps a_z_entryKey a_z_entryDefault a_z_held a_z_values a_z_kinds a_z_news z_s z_past z_pasts z_changed z_entries z_keeps z_entryKey z_entryDefault z_counter z_held z_values z_kinds z_news x1 v3 z_entries v5 ev5) cw67 hs4 0 9 rfl rfl rfl hl.1 rfl (Nat.le_of_ble_eq_true rfl) dX9_clashes_23 ⟨Nat.zero_le _, Nat.zero_le _⟩ ?_
    refine lv_if_ne (tgt := 31) hx hb dX9_clashes_26 (by decide) (fun c6 => ?_) (fun c6 => ?_)
    · have h := ifn h c6
      refine lv_iconst (v := 0) hx hb dX9_clashes_31 (by decide) ?_
      refine lv_istore_n (lv' := [(3, .int 0), (0, .ref a_z), (1, .int x1), (2, .int x2)]) hx hb dX9_clashes_32 rfl hl (by decide) rfl (fun ls hl => ?_)
      refine lv_iconst (v := 0) hx hb dX9_clashes_33 (by decide) ?_
      refine lv_istore (lv' := [(4, .int 0), (3, .int 0), (0, .ref a_z), (1, .int x1), (2, .int x2)]) hx hb dX9_clashes_34 hl (by decide) rfl (fun ls hl => ?_)
      exact F36 5000 x1 x2 0 0 h ls (lv_sub (l' := [(0, .ref a_z), (1, .int x1), (2, .int x2), (3, .int 0), (4, .int 0)]) hl [2, 3, 4, 1, 0] rfl)
    · have h := ifp h c6
      refine lv_iconst (v := 0) hx hb dX9_clashes_29 (by decide) ?_
      exact kRetZ hx hb hr hlk rfl (Option.some.inj h) dX9_clashes_30
set_option maxHeartbeats 8000000 in
set_option maxRecDepth 100000 in
theorem qX9_clash (l : Launch) (D : va_G) (cI cM : ClassId) (a_z a_z_s a_z_past a_z_keeps a_z_entryKey a_z_entryDefault a_z_held a_z_values a_z_kinds a_z_news : Nat) (z_s : Nat → Int32) (z_past : Nat → Int32) (z_pasts : Int32) (z_changed : Int32) (z_entries : Int32) (z_keeps : Nat → Int32) (z_entryKey : Nat → Int32) (z_entryDefault : Nat → Int32) (z_counter : Int32) (z_held : Nat → Int32) (z_values : Nat → Int32) (z_kinds : Nat → Int32) (z_news : Nat → Int32) (r : Int32) (h : fX9_clash z_s z_changed z_entries = some r) : PM l yX9_clash wsX9_clash rmX9_clash D cI cM [.ref a_z] (W_z cI cM a_z a_z_s a_z_past a_z_keeps a_z_entryKey a_z_entryDefault a_z_held a_z_values a_z_kinds a_z_news z_s z_past z_pasts z_changed z_entries z_keeps z_entryKey z_entryDefault z_counter z_held z_values z_kinds z_news) r := by
  refine PM.of (cc := cX9_clash) (maxL := 3) (ret := (some .int)) (by decide) rfl (Nat.le_of_ble_eq_true rfl) ?_
  intro p e s m below meth c ls hx hb hr hml hown hts hlk hP hKK hl
  have hown : s.vm.findClass RX9 = some m.cls := hown
  have hl : lv_has ls 3 [(0, .ref a_z)] := hl
  generalize hav : ([.ref a_z] : List Value) = av at hts ⊢
  have SS : CallFix p m c cX9_clash 3 s av.toArray wsX9_clash RX9 := ⟨hx, hb, hml, hown, hts⟩
  have hinX9 : ∀ w ∈ u_ws RX9 TX9 13, w ∈ wsX9_clash := by decide +kernel
  have lk7 := hts (.fieldLink RX9 7 "SignatureChangerModel" "s" "[I") (List.mem_of_getElem? (i := 2) rfl)
  have lk16 := hts (.fieldLink RX9 16 "SignatureChangerModel" "changed" "I") (List.mem_of_getElem? (i := 1) rfl)
  have cw108 : CallW rmX9_clash s av.toArray RX9 RX9 108 yX9_familyOf cX9_familyOf 6 (some .int) wsX9_familyOf rmX9_familyOf 0 0 1 := cwV 1 hts gX9_clash_X9_familyOf rfl rfl rfl (by decide +kernel) ⟨Nat.le_of_ble_eq_true rfl, Nat.le_of_ble_eq_true rfl⟩
  have cw163 : CallW rmX9_clash s av.toArray RX9 RX9 163 yX9_clashes cX9_clashes 5 (some .boolean) wsX9_clashes rmX9_clashes 0 0 2 := cwV 2 hts gX9_clash_X9_clashes rfl rfl rfl (by decide +kernel) ⟨Nat.le_of_ble_eq_true rfl, Nat.le_of_ble_eq_true rfl⟩
  have F11 : ∀ (n : Nat) (y1 : Int32) (y2 : Int32), lX9_clash_11 z_s z_changed z_entries n y1 y2 = some r → ∀ ls : Array Slot, lv_has ls 3 [(0, .ref a_z), (1, .int y1), (2, .int y2)] → WP p l e rmX9_clash s m av below meth c r 11 ls [] := by
    intro n
    induction n with
    | zero => intro y1 y2 h; exact no_some h
    | succ n ih =>
      intro y1 y2 h ls hl
      rw [lX9_clash_11_s] at h
      refine lv_iload_n hx hb dX9_clash_11 rfl (lv_at hl 2 rfl) ?_
      refine lv_aload_n hx hb dX9_clash_12 rfl (lv_at hl 0 rfl) ?_
      refine va_get (D := D) (ci := 9) (v := .ref a_z_s) (C := RX9) (T := TX9) (N := 13) hx hb hts hinX9 hown hKK.1 hP 0 rfl rfl 0 (by decide) lk7 (fun _ h9 => h9) rfl dX9_clash_13 ?_
      refine lv_bipush (v := 25) hx hb dX9_clash_16 (by decide) ?_
      obtain ⟨v1, iv1, ev1, h⟩ := rd_some h
      refine kAld hx hb hKK hP 1 rfl iv1 ev1 dX9_clash_18 ?_
      refine lv_icmp_ge (tgt := 39) hx hb dX9_clash_19 (by decide) (fun c2 => ?_) (fun c2 => ?_)
      · have h := ifp h c2
        refine lv_bipush (v := (-9)) hx hb dX9_clash_39 (by decide) ?_
        exact kRet hx hb hr hlk (Option.some.inj h) dX9_clash_41
      · have h := ifn h c2
        refine lv_aload_n hx hb dX9_clash_22 rfl (lv_at hl 0 rfl) ?_
        refine lv_iload_n hx hb dX9_clash_23 rfl (lv_at hl 2 rfl) ?_
        refine lv_iload_n hx hb dX9_clash_24 rfl (lv_at hl 1 rfl) ?_
        obtain ⟨v3, ev3, h⟩ := bn_some h
        have hs4 : va_P D vwCl (W_z cI cM a_z a_z_s a_z_past a_z_keeps a_z_entryKey a_z_entryDefault a_z_held a_z_values a_z_kinds a_z_news z_s z_past z_pasts z_changed z_entries z_keeps z_entryKey z_entryDefault z_counter z_held z_values z_kinds z_news) _ := hP.sub (ws' := W_z cI cM a_z a_z_s a_z_past a_z_keeps a_z_entryKey a_z_entryDefault a_z_held a_z_values a_z_kinds a_z_news z_s z_past z_pasts z_changed z_entries z_keeps z_entryKey z_entryDefault z_counter z_held z_values z_kinds z_news) [0, 1, 2, 3, 4, 5, 6, 7, 8, 9] rfl
        refine kV (As := [.int y2, .int y1]) (rest := []) SS hKK (qX9_clashes l D cI cM a_z a_z_s a_z_past a_z_keeps a_z_entryKey a_z_entryDefault a_z_held a_z_values a_z_kinds a_z_news z_s z_past z_pasts z_changed z_entries z_keeps z_entryKey z_entryDefault z_counter z_held z_values z_kinds z_news y2 y1 v3 ev3) cw163 hs4 0 9 rfl rfl rfl hl.1 rfl (Nat.le_of_ble_eq_true rfl) dX9_clash_25 ⟨Nat.zero_le _, Nat.zero_le _⟩ ?_
        refine lv_if_eq (tgt := 33) hx hb dX9_clash_28 (by decide) (fun c5 => ?_) (fun c5 => ?_)
        · have h := ifp h c5
          refine lv_iinc (v := y2 + 1) (lv' := [(2, .int (y2 + 1)), (0, .ref a_z), (1, .int y1)]) hx hb dX9_clash_33 hl (k := 2) rfl rfl (by decide) rfl (fun ls hl => ?_)
          refine lv_goto (tgt := 11) hx hb dX9_clash_36 (by decide) ?_
          exact ih y1 (y2 + 1) h ls (lv_sub (l' := [(0, .ref a_z), (1, .int y1), (2, .int (y2 + 1))]) hl [1, 2, 0] rfl)
        · have h := ifn h c5
          refine lv_iload_n hx hb dX9_clash_31 rfl (lv_at hl 2 rfl) ?_
          exact kRet hx hb hr hlk (Option.some.inj h) dX9_clash_32
  unfold fX9_clash at h
  refine lv_aload_n hx hb dX9_clash_0 rfl (lv_at hl 0 rfl) ?_
  refine lv_aload_n hx hb dX9_clash_1 rfl (lv_at hl 0 rfl) ?_
  refine va_get (D := D) (ci := 9) (v := .int z_changed) (C := RX9) (T := TX9) (N := 13) hx hb hts hinX9 hown hKK.1 hP 0 rfl rfl 3 (by decide) lk16 (fun _ h9 => h9) rfl dX9_clash_2 ?_
  obtain ⟨v1, ev1, h⟩ := bn_some h
  have hs2 : va_P D vwCl (W_z cI cM a_z a_z_s a_z_past a_z_keeps a_z_entryKey a_z_entryDefault a_z_held a_z_values a_z_kinds a_z_news z_s z_past z_pasts z_changed z_entries z_keeps z_entryKey z_entryDefault z_counter z_held z_values z_kinds z_news) _ := hP.sub (ws' := W_z cI cM a_z a_z_s a_z_past a_z_keeps a_z_entryKey a_z_entryDefault a_z_held a_z_values a_z_kinds a_z_news z_s z_past z_pasts z_changed z_entries z_keeps z_entryKey z_entryDefault z_counter z_held z_values z_kinds z_news) [0, 1, 2, 3, 4, 5, 6, 7, 8, 9] rfl
  refine kV (As := [.int z_changed]) (rest := []) SS hKK (qX9_familyOf l D cI cM a_z a_z_s a_z_past a_z_keeps a_z_entryKey a_z_entryDefault a_z_held a_z_values a_z_kinds a_z_news z_s z_past z_pasts z_changed z_entries z_keeps z_entryKey z_entryDefault z_counter z_held z_values z_kinds z_news z_changed v1 ev1) cw108 hs2 0 9 rfl rfl rfl hl.1 rfl (Nat.le_of_ble_eq_true rfl) dX9_clash_5 ⟨Nat.zero_le _, Nat.zero_le _⟩ ?_
  refine lv_istore_n (lv' := [(1, .int v1), (0, .ref a_z)]) hx hb dX9_clash_8 rfl hl (by decide) rfl (fun ls hl => ?_)
  refine lv_iconst (v := 0) hx hb dX9_clash_9 (by decide) ?_
  refine lv_istore_n (lv' := [(2, .int 0), (1, .int v1), (0, .ref a_z)]) hx hb dX9_clash_10 rfl hl (by decide) rfl (fun ls hl => ?_)
  exact F11 5000 v1 0 h ls (lv_sub (l' := [(0, .ref a_z), (1, .int v1), (2, .int 0)]) hl [2, 1, 0] rfl)
set_option maxHeartbeats 8000000 in
set_option maxRecDepth 100000 in
theorem qX9_clashingMethod (l : Launch) (D : va_G) (cI cM : ClassId) (a_z a_z_s a_z_past a_z_keeps a_z_entryKey a_z_entryDefault a_z_held a_z_values a_z_kinds a_z_news : Nat) (z_s : Nat → Int32) (z_past : Nat → Int32) (z_pasts : Int32) (z_changed : Int32) (z_entries : Int32) (z_keeps : Nat → Int32) (z_entryKey : Nat → Int32) (z_entryDefault : Nat → Int32) (z_counter : Int32) (z_held : Nat → Int32) (z_values : Nat → Int32) (z_kinds : Nat → Int32) (z_news : Nat → Int32) (r : Int32) (h : fX9_clashingMethod z_s z_changed z_entries = some r) : PM l yX9_clashingMethod wsX9_clashingMethod rmX9_clashingMethod D cI cM [.ref a_z] (W_z cI cM a_z a_z_s a_z_past a_z_keeps a_z_entryKey a_z_entryDefault a_z_held a_z_values a_z_kinds a_z_news z_s z_past z_pasts z_changed z_entries z_keeps z_entryKey z_entryDefault z_counter z_held z_values z_kinds z_news) r := by
  refine PM.of (cc := cX9_clashingMethod) (maxL := 1) (ret := (some .int)) (by decide) rfl (Nat.le_of_ble_eq_true rfl) ?_
  intro p e s m below meth c ls hx hb hr hml hown hts hlk hP hKK hl
  have hown : s.vm.findClass RX9 = some m.cls := hown
  have hl : lv_has ls 1 [(0, .ref a_z)] := hl
  generalize hav : ([.ref a_z] : List Value) = av at hts ⊢
  have SS : CallFix p m c cX9_clashingMethod 1 s av.toArray wsX9_clashingMethod RX9 := ⟨hx, hb, hml, hown, hts⟩
  have hinX9 : ∀ w ∈ u_ws RX9 TX9 13, w ∈ wsX9_clashingMethod := by decide +kernel
  have lk16 := hts (.fieldLink RX9 16 "SignatureChangerModel" "changed" "I") (List.mem_of_getElem? (i := 1) rfl)
  have cw166 : CallW rmX9_clashingMethod s av.toArray RX9 RX9 166 yX9_clash cX9_clash 3 (some .int) wsX9_clash rmX9_clash 0 0 0 := cwV 0 hts gX9_clashingMethod_X9_clash rfl rfl rfl (by decide +kernel) ⟨Nat.le_of_ble_eq_true rfl, Nat.le_of_ble_eq_true rfl⟩
  unfold fX9_clashingMethod at h
  refine lv_aload_n hx hb dX9_clashingMethod_0 rfl (lv_at hl 0 rfl) ?_
  refine va_get (D := D) (ci := 9) (v := .int z_changed) (C := RX9) (T := TX9) (N := 13) hx hb hts hinX9 hown hKK.1 hP 0 rfl rfl 3 (by decide) lk16 (fun _ h9 => h9) rfl dX9_clashingMethod_1 ?_
  refine lv_bipush (v := (-9)) hx hb dX9_clashingMethod_4 (by decide) ?_
  refine lv_icmp_ne (tgt := 14) hx hb dX9_clashingMethod_6 (by decide) (fun c1 => ?_) (fun c1 => ?_)
  · have h := ifn h c1
    refine lv_aload_n hx hb dX9_clashingMethod_14 rfl (lv_at hl 0 rfl) ?_
    obtain ⟨v2, ev2, h⟩ := bn_some h
    have hs3 : va_P D vwCl (W_z cI cM a_z a_z_s a_z_past a_z_keeps a_z_entryKey a_z_entryDefault a_z_held a_z_values a_z_kinds a_z_news z_s z_past z_pasts z_changed z_entries z_keeps z_entryKey z_entryDefault z_counter z_held z_values z_kinds z_news) _ := hP.sub (ws' := W_z cI cM a_z a_z_s a_z_past a_z_keeps a_z_entryKey a_z_entryDefault a_z_held a_z_values a_z_kinds a_z_news z_s z_past z_pasts z_changed z_entries z_keeps z_entryKey z_entryDefault z_counter z_held z_values z_kinds z_news) [0, 1, 2, 3, 4, 5, 6, 7, 8, 9] rfl
    refine kV (As := []) (rest := []) SS hKK (qX9_clash l D cI cM a_z a_z_s a_z_past a_z_keeps a_z_entryKey a_z_entryDefault a_z_held a_z_values a_z_kinds a_z_news z_s z_past z_pasts z_changed z_entries z_keeps z_entryKey z_entryDefault z_counter z_held z_values z_kinds z_news v2 ev2) cw166 hs3 0 9 rfl rfl rfl hl.1 rfl (Nat.le_of_ble_eq_true rfl) dX9_clashingMethod_15 ⟨Nat.zero_le _, Nat.zero_le _⟩ ?_
    exact kRet hx hb hr hlk (Option.some.inj h) dX9_clashingMethod_18
  · have h := ifp h c1
    refine lv_bipush (v := (-2)) hx hb dX9_clashingMethod_9 (by decide) ?_
    refine lv_goto (tgt := 18) hx hb dX9_clashingMethod_11 (by decide) ?_
    exact kRet hx hb hr hlk (Option.some.inj h) dX9_clashingMethod_18
set_option maxHeartbeats 8000000 in
set_option maxRecDepth 100000 in
theorem qX9_isConcerned (l : Launch) (D : va_G) (cI cM : ClassId) (a_z a_z_s a_z_past a_z_keeps a_z_entryKey a_z_entryDefault a_z_held a_z_values a_z_kinds a_z_news : Nat) (z_s : Nat → Int32) (z_past : Nat → Int32) (z_pasts : Int32) (z_changed : Int32) (z_entries : Int32) (z_keeps : Nat → Int32) (z_entryKey : Nat → Int32) (z_entryDefault : Nat → Int32) (z_counter : Int32) (z_held : Nat → Int32) (z_values : Nat → Int32) (z_kinds : Nat → Int32) (z_news : Nat → Int32) (x1 : Int32) (r : Int32) (h : fX9_isConcerned z_s z_changed x1 = some r) : PM l yX9_isConcerned wsX9_isConcerned rmX9_isConcerned D cI cM [.ref a_z, .int x1] (W_z cI cM a_z a_z_s a_z_past a_z_keeps a_z_entryKey a_z_entryDefault a_z_held a_z_values a_z_kinds a_z_news z_s z_past z_pasts z_changed z_entries z_keeps z_entryKey z_entryDefault z_counter z_held z_values z_kinds z_news) r := by
  refine PM.of (cc := cX9_isConcerned) (maxL := 2) (ret := (some .boolean)) (by decide) rfl (Nat.le_of_ble_eq_true rfl) ?_
  intro p e s m below meth c ls hx hb hr hml hown hts hlk hP hKK hl
  have hown : s.vm.findClass RX9 = some m.cls := hown
  have hl : lv_has ls 2 [(0, .ref a_z), (1, .int x1)] := hl
  generalize hav : ([.ref a_z, .int x1] : List Value) = av at hts ⊢
  have SS : CallFix p m c cX9_isConcerned 2 s av.toArray wsX9_isConcerned RX9 := ⟨hx, hb, hml, hown, hts⟩
  have hinX9 : ∀ w ∈ u_ws RX9 TX9 13, w ∈ wsX9_isConcerned := by decide +kernel
  have lk7 := hts (.fieldLink RX9 7 "SignatureChangerModel" "s" "[I") (List.mem_of_getElem? (i := 2) rfl)
  have lk16 := hts (.fieldLink RX9 16 "SignatureChangerModel" "changed" "I") (List.mem_of_getElem? (i := 1) rfl)
  have cw48 : CallB rmX9_isConcerned s av.toArray RX9 48 yX9_has cX9_has 2 (some .boolean) wsX9_has rmX9_has 0 0 2 ∧ (Cond.static yX9_has).before av.toArray s = true := va_cwS 2 hts gX9_isConcerned_X9_has rfl rfl rfl (by decide +kernel) ⟨Nat.le_of_ble_eq_true rfl, Nat.le_of_ble_eq_true rfl⟩
  have cw108 : CallW rmX9_isConcerned s av.toArray RX9 RX9 108 yX9_familyOf cX9_familyOf 6 (some .int) wsX9_familyOf rmX9_familyOf 0 0 1 := cwV 1 hts gX9_isConcerned_X9_familyOf rfl rfl rfl (by decide +kernel) ⟨Nat.le_of_ble_eq_true rfl, Nat.le_of_ble_eq_true rfl⟩
  have cw111 : CallW rmX9_isConcerned s av.toArray RX9 RX9 111 yX9_at cX9_at 3 (some .int) wsX9_at rmX9_at 0 0 2 := cwV 2 hts gX9_isConcerned_X9_at rfl rfl rfl (by decide +kernel) ⟨Nat.le_of_ble_eq_true rfl, Nat.le_of_ble_eq_true rfl⟩
  unfold fX9_isConcerned at h
  refine lv_aload_n hx hb dX9_isConcerned_0 rfl (lv_at hl 0 rfl) ?_
  refine lv_aload_n hx hb dX9_isConcerned_1 rfl (lv_at hl 0 rfl) ?_
  refine va_get (D := D) (ci := 9) (v := .int z_changed) (C := RX9) (T := TX9) (N := 13) hx hb hts hinX9 hown hKK.1 hP 0 rfl rfl 3 (by decide) lk16 (fun _ h9 => h9) rfl dX9_isConcerned_2 ?_
  obtain ⟨v1, ev1, h⟩ := bn_some h
  have hs2 : va_P D vwCl (W_z cI cM a_z a_z_s a_z_past a_z_keeps a_z_entryKey a_z_entryDefault a_z_held a_z_values a_z_kinds a_z_news z_s z_past z_pasts z_changed z_entries z_keeps z_entryKey z_entryDefault z_counter z_held z_values z_kinds z_news) _ := hP.sub (ws' := W_z cI cM a_z a_z_s a_z_past a_z_keeps a_z_entryKey a_z_entryDefault a_z_held a_z_values a_z_kinds a_z_news z_s z_past z_pasts z_changed z_entries z_keeps z_entryKey z_entryDefault z_counter z_held z_values z_kinds z_news) [0, 1, 2, 3, 4, 5, 6, 7, 8, 9] rfl
  refine kV (As := [.int z_changed]) (rest := []) SS hKK (qX9_familyOf l D cI cM a_z a_z_s a_z_past a_z_keeps a_z_entryKey a_z_entryDefault a_z_held a_z_values a_z_kinds a_z_news z_s z_past z_pasts z_changed z_entries z_keeps z_entryKey z_entryDefault z_counter z_held z_values z_kinds z_news z_changed v1 ev1) cw108 hs2 0 9 rfl rfl rfl hl.1 rfl (Nat.le_of_ble_eq_true rfl) dX9_isConcerned_5 ⟨Nat.zero_le _, Nat.zero_le _⟩ ?_
  refine lv_aload_n hx hb dX9_isConcerned_8 rfl (lv_at hl 0 rfl) ?_
  refine va_get (D := D) (ci := 9) (v := .ref a_z_s) (C := RX9) (T := TX9) (N := 13) hx hb hts hinX9 hown hKK.1 hP 0 rfl rfl 0 (by decide) lk7 (fun _ h9 => h9) rfl dX9_isConcerned_9 ?_
  refine lv_aload_n hx hb dX9_isConcerned_12 rfl (lv_at hl 0 rfl) ?_
  refine lv_iload_n hx hb dX9_isConcerned_13 rfl (lv_at hl 1 rfl) ?_
  refine lv_iconst (v := 2) hx hb dX9_isConcerned_14 (by decide) ?_
  obtain ⟨v3, ev3, h⟩ := bn_some h
  refine kV (As := [.int x1, .int 2]) (rest := [.ref a_z_s, .int v1]) SS hKK (qX9_at l D cI cM a_z a_z_s a_z_past a_z_keeps a_z_entryKey a_z_entryDefault a_z_held a_z_values a_z_kinds a_z_news z_s z_past z_pasts z_changed z_entries z_keeps z_entryKey z_entryDefault z_counter z_held z_values z_kinds z_news x1 2 v3 ev3) cw111 hs2 0 9 rfl rfl rfl hl.1 rfl (Nat.le_of_ble_eq_true rfl) dX9_isConcerned_15 ⟨Nat.zero_le _, Nat.zero_le _⟩ ?_
  obtain ⟨v4, iv4, ev4, h⟩ := rd_some h
  refine kAld hx hb hKK hP 1 rfl iv4 ev4 dX9_isConcerned_18 ?_
  obtain ⟨v5, ev5, h⟩ := bn_some h
  refine kS (As := [.int v1, .int v4]) (rest := []) SS hKK (qX9_has l D cI cM v1 v4 v5 ev5) cw48 va_P_nil rfl hl.1 rfl (Nat.le_of_ble_eq_true rfl) dX9_isConcerned_19 ⟨Nat.zero_le _, Nat.zero_le _⟩ ?_
  exact kRetZ hx hb hr hlk (rb_some h).2 (rb_some h).1 dX9_isConcerned_22
set_option maxHeartbeats 8000000 in
set_option maxRecDepth 100000 in
theorem qX9_kindOf (l : Launch) (D : va_G) (cI cM : ClassId) (a_z a_z_s a_z_past a_z_keeps a_z_entryKey a_z_entryDefault a_z_held a_z_values a_z_kinds a_z_news : Nat) (z_s : Nat → Int32) (z_past : Nat → Int32) (z_pasts : Int32) (z_changed : Int32) (z_entries : Int32) (z_keeps : Nat → Int32) (z_entryKey : Nat → Int32) (z_entryDefault : Nat → Int32) (z_counter : Int32) (z_held : Nat → Int32) (z_values : Nat → Int32) (z_kinds : Nat → Int32) (z_news : Nat → Int32) (x1 : Int32) (x2 : Int32) (r : Int32) (h : fX9_kindOf z_s x1 x2 = some r) : PM l yX9_kindOf wsX9_kindOf rmX9_kindOf D cI cM [.ref a_z, .int x1, .int x2] (W_z cI cM a_z a_z_s a_z_past a_z_keeps a_z_entryKey a_z_entryDefault a_z_held a_z_values a_z_kinds a_z_news z_s z_past z_pasts z_changed z_entries z_keeps z_entryKey z_entryDefault z_counter z_held z_values z_kinds z_news) r := by
  refine PM.of (cc := cX9_kindOf) (maxL := 3) (ret := (some .int)) (by decide) rfl (Nat.le_of_ble_eq_true rfl) ?_
  intro p e s m below meth c ls hx hb hr hml hown hts hlk hP hKK hl
  have hown : s.vm.findClass RX9 = some m.cls := hown
  have hl : lv_has ls 3 [(0, .ref a_z), (1, .int x1), (2, .int x2)] := hl
  generalize hav : ([.ref a_z, .int x1, .int x2] : List Value) = av at hts ⊢
  have SS : CallFix p m c cX9_kindOf 3 s av.toArray wsX9_kindOf RX9 := ⟨hx, hb, hml, hown, hts⟩
  have hinX9 : ∀ w ∈ u_ws RX9 TX9 13, w ∈ wsX9_kindOf := by decide +kernel
  have lk7 := hts (.fieldLink RX9 7 "SignatureChangerModel" "s" "[I") (List.mem_of_getElem? (i := 1) rfl)
  have cw111 : CallW rmX9_kindOf s av.toArray RX9 RX9 111 yX9_at cX9_at 3 (some .int) wsX9_at rmX9_at 0 0 2 := cwV 2 hts gX9_kindOf_X9_at rfl rfl rfl (by decide +kernel) ⟨Nat.le_of_ble_eq_true rfl, Nat.le_of_ble_eq_true rfl⟩
  unfold fX9_kindOf at h
  refine lv_aload_n hx hb dX9_kindOf_0 rfl (lv_at hl 0 rfl) ?_
  refine va_get (D := D) (ci := 9) (v := .ref a_z_s) (C := RX9) (T := TX9) (N := 13) hx hb hts hinX9 hown hKK.1 hP 0 rfl rfl 0 (by decide) lk7 (fun _ h9 => h9) rfl dX9_kindOf_1 ?_
  refine lv_aload_n hx hb dX9_kindOf_4 rfl (lv_at hl 0 rfl) ?_
  refine lv_iload_n hx hb dX9_kindOf_5 rfl (lv_at hl 1 rfl) ?_
  refine lv_iconst (v := 5) hx hb dX9_kindOf_6 (by decide) ?_
  refine lv_iload_n hx hb dX9_kindOf_7 rfl (lv_at hl 2 rfl) ?_
  refine lv_iadd hx hb dX9_kindOf_8 ?_
  obtain ⟨v1, ev1, h⟩ := bn_some h
  have hs2 : va_P D vwCl (W_z cI cM a_z a_z_s a_z_past a_z_keeps a_z_entryKey a_z_entryDefault a_z_held a_z_values a_z_kinds a_z_news z_s z_past z_pasts z_changed z_entries z_keeps z_entryKey z_entryDefault z_counter z_held z_values z_kinds z_news) _ := hP.sub (ws' := W_z cI cM a_z a_z_s a_z_past a_z_keeps a_z_entryKey a_z_entryDefault a_z_held a_z_values a_z_kinds a_z_news z_s z_past z_pasts z_changed z_entries z_keeps z_entryKey z_entryDefault z_counter z_held z_values z_kinds z_news) [0, 1, 2, 3, 4, 5, 6, 7, 8, 9] rfl
  refine kV (As := [.int x1, .int (5 + x2)]) (rest := [.ref a_z_s]) SS hKK (qX9_at l D cI cM a_z a_z_s a_z_past a_z_keeps a_z_entryKey a_z_entryDefault a_z_held a_z_values a_z_kinds a_z_news z_s z_past z_pasts z_changed z_entries z_keeps z_entryKey z_entryDefault z_counter z_held z_values z_kinds z_news x1 (5 + x2) v1 ev1) cw111 hs2 0 9 rfl rfl rfl hl.1 rfl (Nat.le_of_ble_eq_true rfl) dX9_kindOf_9 ⟨Nat.zero_le _, Nat.zero_le _⟩ ?_
  obtain ⟨v3, iv3, ev3, h⟩ := rd_some h
  refine kAld hx hb hKK hP 1 rfl iv3 ev3 dX9_kindOf_12 ?_
  exact kRet hx hb hr hlk (Option.some.inj h) dX9_kindOf_13
set_option maxHeartbeats 8000000 in
set_option maxRecDepth 100000 in
theorem qX9_doesCount (l : Launch) (D : va_G) (cI cM : ClassId) (a_z a_z_s a_z_past a_z_keeps a_z_entryKey a_z_entryDefault a_z_held a_z_values a_z_kinds a_z_news : Nat) (z_s : Nat → Int32) (z_past : Nat → Int32) (z_pasts : Int32) (z_changed : Int32) (z_entries : Int32) (z_keeps : Nat → Int32) (z_entryKey : Nat → Int32) (z_entryDefault : Nat → Int32) (z_counter : Int32) (z_held : Nat → Int32) (z_values : Nat → Int32) (z_kinds : Nat → Int32) (z_news : Nat → Int32) (x1 : Int32) (x2 : Int32) (r : Int32) (h : fX9_doesCount z_s x1 x2 = some r) : PM l yX9_doesCount wsX9_doesCount rmX9_doesCount D cI cM [.ref a_z, .int x1, .int x2] (W_z cI cM a_z a_z_s a_z_past a_z_keeps a_z_entryKey a_z_entryDefault a_z_held a_z_values a_z_kinds a_z_news z_s z_past z_pasts z_changed z_entries z_keeps z_entryKey z_entryDefault z_counter z_held z_values z_kinds z_news) r := by
  refine PM.of (cc := cX9_doesCount) (maxL := 3) (ret := (some .boolean)) (by decide) rfl (Nat.le_of_ble_eq_true rfl) ?_
  intro p e s m below meth c ls hx hb hr hml hown hts hlk hP hKK hl
  have hown : s.vm.findClass RX9 = some m.cls := hown
  have hl : lv_has ls 3 [(0, .ref a_z), (1, .int x1), (2, .int x2)] := hl
  generalize hav : ([.ref a_z, .int x1, .int x2] : List Value) = av at hts ⊢
  have SS : CallFix p m c cX9_doesCount 3 s av.toArray wsX9_doesCount RX9 := ⟨hx, hb, hml, hown, hts⟩
  have cw169 : CallW rmX9_doesCount s av.toArray RX9 RX9 169 yX9_kindOf cX9_kindOf 3 (some .int) wsX9_kindOf rmX9_kindOf 0 0 2 := cwV 2 hts gX9_doesCount_X9_kindOf rfl rfl rfl (by decide +kernel) ⟨Nat.le_of_ble_eq_true rfl, Nat.le_of_ble_eq_true rfl⟩
  unfold fX9_doesCount at h
  refine lv_aload_n hx hb dX9_doesCount_0 rfl (lv_at hl 0 rfl) ?_
  refine lv_iload_n hx hb dX9_doesCount_1 rfl (lv_at hl 1 rfl) ?_
  refine lv_iload_n hx hb dX9_doesCount_2 rfl (lv_at hl 2 rfl) ?_
  obtain ⟨v1, ev1, h⟩ := bn_some h
  have hs2 : va_P D vwCl (W_z cI cM a_z a_z_s a_z_past a_z_keeps a_z_entryKey a_z_entryDefault a_z_held a_z_values a_z_kinds a_z_news z_s z_past z_pasts z_changed z_entries z_keeps z_entryKey z_entryDefault z_counter z_held z_values z_kinds z_news) _ := hP.sub (ws' := W_z cI cM a_z a_z_s a_z_past a_z_keeps a_z_entryKey a_z_entryDefault a_z_held a_z_values a_z_kinds a_z_news z_s z_past z_pasts z_changed z_entries z_keeps z_entryKey z_entryDefault z_counter z_held z_values z_kinds z_news) [0, 1, 2, 3, 4, 5, 6, 7, 8, 9] rfl
  refine kV (As := [.int x1, .int x2]) (rest := []) SS hKK (qX9_kindOf l D cI cM a_z a_z_s a_z_past a_z_keeps a_z_entryKey a_z_entryDefault a_z_held a_z_values a_z_kinds a_z_news z_s z_past z_pasts z_changed z_entries z_keeps z_entryKey z_entryDefault z_counter z_held z_values z_kinds z_news x1 x2 v1 ev1) cw169 hs2 0 9 rfl rfl rfl hl.1 rfl (Nat.le_of_ble_eq_true rfl) dX9_doesCount_3 ⟨Nat.zero_le _, Nat.zero_le _⟩ ?_
  refine lv_iconst (v := 1) hx hb dX9_doesCount_6 (by decide) ?_
  refine lv_icmp_eq (tgt := 20) hx hb dX9_doesCount_7 (by decide) (fun c3 => ?_) (fun c3 => ?_)
  · have h := ifp h c3
    refine lv_iconst (v := 1) hx hb dX9_doesCount_20 (by decide) ?_
    refine lv_goto (tgt := 25) hx hb dX9_doesCount_21 (by decide) ?_
    exact kRetZ hx hb hr hlk rfl (Option.some.inj h) dX9_doesCount_25
  · have h := ifn h c3
    refine lv_aload_n hx hb dX9_doesCount_10 rfl (lv_at hl 0 rfl) ?_
    refine lv_iload_n hx hb dX9_doesCount_11 rfl (lv_at hl 1 rfl) ?_
    refine lv_iload_n hx hb dX9_doesCount_12 rfl (lv_at hl 2 rfl) ?_
    obtain ⟨v4, ev4, h⟩ := bn_some h
    refine kV (As := [.int x1, .int x2]) (rest := []) SS hKK (qX9_kindOf l D cI cM a_z a_z_s a_z_past a_z_keeps a_z_entryKey a_z_entryDefault a_z_held a_z_values a_z_kinds a_z_news z_s z_past z_pasts z_changed z_entries z_keeps z_entryKey z_entryDefault z_counter z_held z_values z_kinds z_news x1 x2 v4 ev4) cw169 hs2 0 9 rfl rfl rfl hl.1 rfl (Nat.le_of_ble_eq_true rfl) dX9_doesCount_13 ⟨Nat.zero_le _, Nat.zero_le _⟩ ?_
    refine lv_iconst (v := 2) hx hb dX9_doesCount_16 (by decide) ?_
    refine lv_icmp_ne (tgt := 24) hx hb dX9_doesCount_17 (by decide) (fun c5 => ?_) (fun c5 => ?_)
    · have h := ifn h c5
      refine lv_iconst (v := 0) hx hb dX9_doesCount_24 (by decide) ?_
      exact kRetZ hx hb hr hlk rfl (Option.some.inj h) dX9_doesCount_25
    · have h := ifp h c5
      refine lv_iconst (v := 1) hx hb dX9_doesCount_20 (by decide) ?_
      refine lv_goto (tgt := 25) hx hb dX9_doesCount_21 (by decide) ?_
      exact kRetZ hx hb hr hlk rfl (Option.some.inj h) dX9_doesCount_25
set_option maxHeartbeats 8000000 in
set_option maxRecDepth 100000 in
theorem qX9_turnOf (l : Launch) (D : va_G) (cI cM : ClassId) (a_z a_z_s a_z_past a_z_keeps a_z_entryKey a_z_entryDefault a_z_held a_z_values a_z_kinds a_z_news : Nat) (z_s : Nat → Int32) (z_past : Nat → Int32) (z_pasts : Int32) (z_changed : Int32) (z_entries : Int32) (z_keeps : Nat → Int32) (z_entryKey : Nat → Int32) (z_entryDefault : Nat → Int32) (z_counter : Int32) (z_held : Nat → Int32) (z_values : Nat → Int32) (z_kinds : Nat → Int32) (z_news : Nat → Int32) (x1 : Int32) (x2 : Int32) (r : Int32) (h : fX9_turnOf z_entries z_keeps x1 x2 = some r) : PM l yX9_turnOf wsX9_turnOf rmX9_turnOf D cI cM [.ref a_z, .int x1, .int x2] (W_z cI cM a_z a_z_s a_z_past a_z_keeps a_z_entryKey a_z_entryDefault a_z_held a_z_values a_z_kinds a_z_news z_s z_past z_pasts z_changed z_entries z_keeps z_entryKey z_entryDefault z_counter z_held z_values z_kinds z_news) r := by
  refine PM.of (cc := cX9_turnOf) (maxL := 3) (ret := (some .int)) (by decide) rfl (Nat.le_of_ble_eq_true rfl) ?_
  intro p e s m below meth c ls hx hb hr hml hown hts hlk hP hKK hl
  have hown : s.vm.findClass RX9 = some m.cls := hown
  have hl : lv_has ls 3 [(0, .ref a_z), (1, .int x1), (2, .int x2)] := hl
  generalize hav : ([.ref a_z, .int x1, .int x2] : List Value) = av at hts ⊢
  have SS : CallFix p m c cX9_turnOf 3 s av.toArray wsX9_turnOf RX9 := ⟨hx, hb, hml, hown, hts⟩
  have cw48 : CallB rmX9_turnOf s av.toArray RX9 48 yX9_has cX9_has 2 (some .boolean) wsX9_has rmX9_has 0 0 2 ∧ (Cond.static yX9_has).before av.toArray s = true := va_cwS 2 hts gX9_turnOf_X9_has rfl rfl rfl (by decide +kernel) ⟨Nat.le_of_ble_eq_true rfl, Nat.le_of_ble_eq_true rfl⟩
  have cw157 : CallW rmX9_turnOf s av.toArray RX9 RX9 157 yX9_entryOf cX9_entryOf 3 (some .int) wsX9_entryOf rmX9_entryOf 0 0 1 := cwV 1 hts gX9_turnOf_X9_entryOf rfl rfl rfl (by decide +kernel) ⟨Nat.le_of_ble_eq_true rfl, Nat.le_of_ble_eq_true rfl⟩
  unfold fX9_turnOf at h
  refine lv_iload_n hx hb dX9_turnOf_0 rfl (lv_at hl 2 rfl) ?_
  refine lv_iload_n hx hb dX9_turnOf_1 rfl (lv_at hl 1 rfl) ?_
  obtain ⟨v1, ev1, h⟩ := bn_some h
  refine kS (As := [.int x2, .int x1]) (rest := []) SS hKK (qX9_has l D cI cM x2 x1 v1 ev1) cw48 va_P_nil rfl hl.1 rfl (Nat.le_of_ble_eq_true rfl) dX9_turnOf_2 ⟨Nat.zero_le _, Nat.zero_le _⟩ ?_
  refine lv_if_eq (tgt := 12) hx hb dX9_turnOf_5 (by decide) (fun c2 => ?_) (fun c2 => ?_)
  · have h := ifp h c2
    refine lv_aload_n hx hb dX9_turnOf_12 rfl (lv_at hl 0 rfl) ?_
    refine lv_iload_n hx hb dX9_turnOf_13 rfl (lv_at hl 1 rfl) ?_
    obtain ⟨v3, ev3, h⟩ := bn_some h
    have hs4 : va_P D vwCl (W_z cI cM a_z a_z_s a_z_past a_z_keeps a_z_entryKey a_z_entryDefault a_z_held a_z_values a_z_kinds a_z_news z_s z_past z_pasts z_changed z_entries z_keeps z_entryKey z_entryDefault z_counter z_held z_values z_kinds z_news) _ := hP.sub (ws' := W_z cI cM a_z a_z_s a_z_past a_z_keeps a_z_entryKey a_z_entryDefault a_z_held a_z_values a_z_kinds a_z_news z_s z_past z_pasts z_changed z_entries z_keeps z_entryKey z_entryDefault z_counter z_held z_values z_kinds z_news) [0, 1, 2, 3, 4, 5, 6, 7, 8, 9] rfl
    refine kV (As := [.int x1]) (rest := []) SS hKK (qX9_entryOf l D cI cM a_z a_z_s a_z_past a_z_keeps a_z_entryKey a_z_entryDefault a_z_held a_z_values a_z_kinds a_z_news z_s z_past z_pasts z_changed z_entries z_keeps z_entryKey z_entryDefault z_counter z_held z_values z_kinds z_news x1 v3 ev3) cw157 hs4 0 9 rfl rfl rfl hl.1 rfl (Nat.le_of_ble_eq_true rfl) dX9_turnOf_14 ⟨Nat.zero_le _, Nat.zero_le _⟩ ?_
    refine lv_bipush (v := (-9)) hx hb dX9_turnOf_17 (by decide) ?_
    refine lv_icmp_ne (tgt := 27) hx hb dX9_turnOf_19 (by decide) (fun c5 => ?_) (fun c5 => ?_)
    · have h := ifn h c5
      refine lv_bipush (v := 10) hx hb dX9_turnOf_27 (by decide) ?_
      refine lv_aload_n hx hb dX9_turnOf_29 rfl (lv_at hl 0 rfl) ?_
      refine lv_iload_n hx hb dX9_turnOf_30 rfl (lv_at hl 1 rfl) ?_
      obtain ⟨v6, ev6, h⟩ := bn_some h
      refine kV (As := [.int x1]) (rest := [.int 10]) SS hKK (qX9_entryOf l D cI cM a_z a_z_s a_z_past a_z_keeps a_z_entryKey a_z_entryDefault a_z_held a_z_values a_z_kinds a_z_news z_s z_past z_pasts z_changed z_entries z_keeps z_entryKey z_entryDefault z_counter z_held z_values z_kinds z_news x1 v6 ev6) cw157 hs4 0 9 rfl rfl rfl hl.1 rfl (Nat.le_of_ble_eq_true rfl) dX9_turnOf_31 ⟨Nat.zero_le _, Nat.zero_le _⟩ ?_
      refine lv_iadd hx hb dX9_turnOf_34 ?_
      exact kRet hx hb hr hlk (Option.some.inj h) dX9_turnOf_35
    · have h := ifp h c5
      refine lv_bipush (v := (-9)) hx hb dX9_turnOf_22 (by decide) ?_
      refine lv_goto (tgt := 35) hx hb dX9_turnOf_24 (by decide) ?_
      exact kRet hx hb hr hlk (Option.some.inj h) dX9_turnOf_35
  · have h := ifn h c2
    refine lv_iload_n hx hb dX9_turnOf_8 rfl (lv_at hl 1 rfl) ?_
    refine lv_goto (tgt := 35) hx hb dX9_turnOf_9 (by decide) ?_
    exact kRet hx hb hr hlk (Option.some.inj h) dX9_turnOf_35
