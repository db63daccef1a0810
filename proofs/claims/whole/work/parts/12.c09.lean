/-! generated: X9.areAtOdds X9.declareType X9.relatives X9.lowest X9.haveOneList X9.declares X9.declareMethod X9.familyOf X9.typeCount X9.isSubtype X9.family X9.parameterCount X9.parameterKey X9.at X9.isCall X9.isFrozen X9.targetOf X9.declareCall X9.isArgument X9.setArgument X9.isUpToDate -/
set_option maxHeartbeats 8000000 in
set_option maxRecDepth 100000 in
theorem qX9_areAtOdds (l : Launch) (D : va_G) (cI cM : ClassId) (a_z a_z_s a_z_past a_z_keeps a_z_entryKey a_z_entryDefault a_z_held a_z_values a_z_kinds a_z_news : Nat) (z_s : Nat → Int32) (z_past : Nat → Int32) (z_pasts : Int32) (z_changed : Int32) (z_entries : Int32) (z_keeps : Nat → Int32) (z_entryKey : Nat → Int32) (z_entryDefault : Nat → Int32) (z_counter : Int32) (z_held : Nat → Int32) (z_values : Nat → Int32) (z_kinds : Nat → Int32) (z_news : Nat → Int32) (x1 : Int32) (r : Int32) (h : fX9_areAtOdds z_s x1 = some r) : PM l yX9_areAtOdds wsX9_areAtOdds rmX9_areAtOdds D cI cM [.ref a_z, .int x1] (W_z cI cM a_z a_z_s a_z_past a_z_keeps a_z_entryKey a_z_entryDefault a_z_held a_z_values a_z_kinds a_z_news z_s z_past z_pasts z_changed z_entries z_keeps z_entryKey z_entryDefault z_counter z_held z_values z_kinds z_news) r := by
  refine PM.of (cc := cX9_areAtOdds) (maxL := 5) (ret := (some .boolean)) (by decide) rfl (Nat.le_of_ble_eq_true rfl) ?_
  intro p e s m below meth c ls hx hb hr hml hown hts hlk hP hKK hl
  have hown : s.vm.findClass RX9 = some m.cls := hown
  have hl : lv_has ls 5 [(0, .ref a_z), (1, .int x1)] := hl
  generalize hav : ([.ref a_z, .int x1] : List Value) = av at hts ⊢
  have SS : CallFix p m c cX9_areAtOdds 5 s av.toArray wsX9_areAtOdds RX9 := ⟨hx, hb, hml, hown, hts⟩
  have hinX9 : ∀ w ∈ u_ws RX9 TX9 13, w ∈ wsX9_areAtOdds := by decide +kernel
  have lk7 := hts (.fieldLink RX9 7 "SignatureChangerModel" "s" "[I") (List.mem_of_getElem? (i := 1) rfl)
  have cw48 : CallB rmX9_areAtOdds s av.toArray RX9 48 yX9_has cX9_has 2 (some .boolean) wsX9_has rmX9_has 0 0 2 ∧ (Cond.static yX9_has).before av.toArray s = true := va_cwS 2 hts gX9_areAtOdds_X9_has rfl rfl rfl (by decide +kernel) ⟨Nat.le_of_ble_eq_true rfl, Nat.le_of_ble_eq_true rfl⟩
  have cw63 : CallW rmX9_areAtOdds s av.toArray RX9 RX9 63 yX9_of cX9_of 3 (some .int) wsX9_of rmX9_of 0 0 2 := cwV 2 hts gX9_areAtOdds_X9_of rfl rfl rfl (by decide +kernel) ⟨Nat.le_of_ble_eq_true rfl, Nat.le_of_ble_eq_true rfl⟩
  have cw70 : CallW rmX9_areAtOdds s av.toArray RX9 RX9 70 yX9_areAlikeNamed cX9_areAlikeNamed 3 (some .boolean) wsX9_areAlikeNamed rmX9_areAlikeNamed 0 0 2 := cwV 2 hts gX9_areAtOdds_X9_areAlikeNamed rfl rfl rfl (by decide +kernel) ⟨Nat.le_of_ble_eq_true rfl, Nat.le_of_ble_eq_true rfl⟩
  have cw73 : CallW rmX9_areAtOdds s av.toArray RX9 RX9 73 yX9_haveSameList cX9_haveSameList 5 (some .boolean) wsX9_haveSameList rmX9_haveSameList 0 0 2 := cwV 2 hts gX9_areAtOdds_X9_haveSameList rfl rfl rfl (by decide +kernel) ⟨Nat.le_of_ble_eq_true rfl, Nat.le_of_ble_eq_true rfl⟩
  have F80 : ∀ (k4 : Int32 → Int32 → Int32 → Option (Int32)) (k18 : Int32 → Int32 → Int32 → Int32 → Option (Int32)) (hk4 : ∀ (u1 : Int32) (u2 : Int32) (u3 : Int32), k4 u1 u2 u3 = some r → ∀ ls : Array Slot, lv_has ls 5 [(0, .ref a_z), (1, .int u1), (2, .int u2), (3, .int u3)] → WP p l e rmX9_areAtOdds s m av below meth c r 4 ls []) (hk18 : ∀ (u1 : Int32) (u2 : Int32) (u3 : Int32) (u4 : Int32), k18 u1 u2 u3 u4 = some r → ∀ ls : Array Slot, lv_has ls 5 [(0, .ref a_z), (1, .int u1), (2, .int u2), (3, .int u3), (4, .int u4)] → WP p l e rmX9_areAtOdds s m av below meth c r 18 ls []), ∀ (y1 : Int32) (y3 : Int32) (y4 : Int32) (s0 : Int32), jX9_areAtOdds_80 z_s k4 k18 y1 y3 y4 s0 = some r → ∀ ls : Array Slot, lv_has ls 5 [(0, .ref a_z), (1, .int y1), (3, .int y3), (4, .int y4)] → WP p l e rmX9_areAtOdds s m av below meth c r 80 ls [.int s0] := by
    intro k4 k18 hk4 hk18
    intro y1 y3 y4 s0 h ls hl
    unfold jX9_areAtOdds_80 at h
    refine lv_istore_n (lv' := [(2, .int s0), (0, .ref a_z), (1, .int y1), (3, .int y3), (4, .int y4)]) hx hb dX9_areAtOdds_80 rfl hl (by decide) rfl (fun ls hl => ?_)
    refine lv_iinc (v := y4 + 1) (lv' := [(4, .int (y4 + 1)), (2, .int s0), (0, .ref a_z), (1, .int y1), (3, .int y3)]) hx hb dX9_areAtOdds_81 hl (k := 4) rfl rfl (by decide) rfl (fun ls hl => ?_)
    refine lv_goto (tgt := 18) hx hb dX9_areAtOdds_84 (by decide) ?_
    exact hk18 y1 s0 y3 (y4 + 1) h ls (lv_sub (l' := [(0, .ref a_z), (1, .int y1), (2, .int s0), (3, .int y3), (4, .int (y4 + 1))]) hl [2, 3, 1, 4, 0] rfl)
  have F75 : ∀ (k4 : Int32 → Int32 → Int32 → Option (Int32)) (k18 : Int32 → Int32 → Int32 → Int32 → Option (Int32)) (hk4 : ∀ (u1 : Int32) (u2 : Int32) (u3 : Int32), k4 u1 u2 u3 = some r → ∀ ls : Array Slot, lv_has ls 5 [(0, .ref a_z), (1, .int u1), (2, .int u2), (3, .int u3)] → WP p l e rmX9_areAtOdds s m av below meth c r 4 ls []) (hk18 : ∀ (u1 : Int32) (u2 : Int32) (u3 : Int32) (u4 : Int32), k18 u1 u2 u3 u4 = some r → ∀ ls : Array Slot, lv_has ls 5 [(0, .ref a_z), (1, .int u1), (2, .int u2), (3, .int u3), (4, .int u4)] → WP p l e rmX9_areAtOdds s m av below meth c r 18 ls []), ∀ (y1 : Int32) (y3 : Int32) (y4 : Int32), jX9_areAtOdds_75 z_s k4 k18 y1 y3 y4 = some r → ∀ ls : Array Slot, lv_has ls 5 [(0, .ref a_z), (1, .int y1), (3, .int y3), (4, .int y4)] → WP p l e rmX9_areAtOdds s m av below meth c r 75 ls [] := by
    intro k4 k18 hk4 hk18
    intro y1 y3 y4 h ls hl
    unfold jX9_areAtOdds_75 at h
    refine lv_iconst (v := 1) hx hb dX9_areAtOdds_75 (by decide) ?_
    refine lv_goto (tgt := 80) hx hb dX9_areAtOdds_76 (by decide) ?_
    exact F80 k4 k18 hk4 hk18 y1 y3 y4 1 h ls (lv_sub (l' := [(0, .ref a_z), (1, .int y1), (3, .int y3), (4, .int y4)]) hl [0, 1, 2, 3] rfl)
  have F79 : ∀ (k4 : Int32 → Int32 → Int32 → Option (Int32)) (k18 : Int32 → Int32 → Int32 → Int32 → Option (Int32)) (hk4 : ∀ (u1 : Int32) (u2 : Int32) (u3 : Int32), k4 u1 u2 u3 = some r → ∀ ls : Array Slot, lv_has ls 5 [(0, .ref a_z), (1, .int u1), (2, .int u2), (3, .int u3)] → WP p l e rmX9_areAtOdds s m av below meth c r 4 ls []) (hk18 : ∀ (u1 : Int32) (u2 : Int32) (u3 : Int32) (u4 : Int32), k18 u1 u2 u3 u4 = some r → ∀ ls : Array Slot, lv_has ls 5 [(0, .ref a_z), (1, .int u1), (2, .int u2), (3, .int u3), (4, .int u4)] → WP p l e rmX9_areAtOdds s m av below meth c r 18 ls []), ∀ (y1 : Int32) (y3 : Int32) (y4 : Int32), jX9_areAtOdds_79 z_s k4 k18 y1 y3 y4 = some r → ∀ ls : Array Slot, lv_has ls 5 [(0, .ref a_z), (1, .int y1), (3, .int y3), (4, .int y4)] → WP p l e rmX9_areAtOdds s m av below meth c r 79 ls [] := by
    intro k4 k18 hk4 hk18
    intro y1 y3 y4 h ls hl
    unfold jX9_areAtOdds_79 at h
    refine lv_iconst (v := 0) hx hb dX9_areAtOdds_79 (by decide) ?_
    exact F80 k4 k18 hk4 hk18 y1 y3 y4 0 h ls (lv_sub (l' := [(0, .ref a_z), (1, .int y1), (3, .int y3), (4, .int y4)]) hl [0, 1, 2, 3] rfl)
  have F18 : ∀ (k4 : Int32 → Int32 → Int32 → Option (Int32)) (hk4 : ∀ (u1 : Int32) (u2 : Int32) (u3 : Int32), k4 u1 u2 u3 = some r → ∀ ls : Array Slot, lv_has ls 5 [(0, .ref a_z), (1, .int u1), (2, .int u2), (3, .int u3)] → WP p l e rmX9_areAtOdds s m av below meth c r 4 ls []), ∀ (n : Nat) (y1 : Int32) (y2 : Int32) (y3 : Int32) (y4 : Int32), lX9_areAtOdds_18 z_s k4 n y1 y2 y3 y4 = some r → ∀ ls : Array Slot, lv_has ls 5 [(0, .ref a_z), (1, .int y1), (2, .int y2), (3, .int y3), (4, .int y4)] → WP p l e rmX9_areAtOdds s m av below meth c r 18 ls [] := by
    intro k4 hk4
    intro n
    induction n with
    | zero => intro y1 y2 y3 y4 h; exact no_some h
    | succ n ih =>
      intro y1 y2 y3 y4 h ls hl
      rw [lX9_areAtOdds_18_s] at h
      refine lv_iload hx hb dX9_areAtOdds_18 (lv_at hl 4 rfl) ?_
      refine lv_iload_n hx hb dX9_areAtOdds_20 rfl (lv_at hl 3 rfl) ?_
      refine lv_icmp_ge (tgt := 87) hx hb dX9_areAtOdds_21 (by decide) (fun c1 => ?_) (fun c1 => ?_)
      · have h := ifp h c1
        refine lv_iinc (v := y3 + 1) (lv' := [(3, .int (y3 + 1)), (0, .ref a_z), (1, .int y1), (2, .int y2), (4, .int y4)]) hx hb dX9_areAtOdds_87 hl (k := 3) rfl rfl (by decide) rfl (fun ls hl => ?_)
        refine lv_goto (tgt := 4) hx hb dX9_areAtOdds_90 (by decide) ?_
        exact hk4 y1 y2 (y3 + 1) h ls (lv_sub (l' := [(0, .ref a_z), (1, .int y1), (2, .int y2), (3, .int (y3 + 1))]) hl [1, 2, 3, 0] rfl)
      · have h := ifn h c1
        refine lv_iload_n hx hb dX9_areAtOdds_24 rfl (lv_at hl 2 rfl) ?_
        refine lv_if_ne (tgt := 75) hx hb dX9_areAtOdds_25 (by decide) (fun c2 => ?_) (fun c2 => ?_)
        · have h := ifn h c2
          exact F75 k4 (fun u1 u2 u3 u4 => lX9_areAtOdds_18 z_s k4 n u1 u2 u3 u4) hk4 (fun u1 u2 u3 u4 h ls hl => ih u1 u2 u3 u4 h ls hl) y1 y3 y4 h ls (lv_sub (l' := [(0, .ref a_z), (1, .int y1), (3, .int y3), (4, .int y4)]) hl [0, 1, 3, 4] rfl)
        · have h := ifp h c2
          refine lv_iload_n hx hb dX9_areAtOdds_28 rfl (lv_at hl 1 rfl) ?_
          refine lv_aload_n hx hb dX9_areAtOdds_29 rfl (lv_at hl 0 rfl) ?_
          refine lv_iload_n hx hb dX9_areAtOdds_30 rfl (lv_at hl 3 rfl) ?_
          refine lv_iconst (v := 0) hx hb dX9_areAtOdds_31 (by decide) ?_
          obtain ⟨v3, ev3, h⟩ := bn_some h
          have hs4 : va_P D vwCl (W_z cI cM a_z a_z_s a_z_past a_z_keeps a_z_entryKey a_z_entryDefault a_z_held a_z_values a_z_kinds a_z_news z_s z_past z_pasts z_changed z_entries z_keeps z_entryKey z_entryDefault z_counter z_held z_values z_kinds z_news) _ := hP.sub (ws' := W_z cI cM a_z a_z_s a_z_past a_z_keeps a_z_entryKey a_z_entryDefault a_z_held a_z_values a_z_kinds a_z_news z_s z_past z_pasts z_changed z_entries z_keeps z_entryKey z_entryDefault z_counter z_held z_values z_kinds z_news) [0, 1, 2, 3, 4, 5, 6, 7, 8, 9] rfl
          refine kV (As := [.int y3, .int 0]) (rest := [.int y1]) SS hKK (qX9_of l D cI cM a_z a_z_s a_z_past a_z_keeps a_z_entryKey a_z_entryDefault a_z_held a_z_values a_z_kinds a_z_news z_s z_past z_pasts z_changed z_entries z_keeps z_entryKey z_entryDefault z_counter z_held z_values z_kinds z_news y3 0 v3 ev3) cw63 hs4 0 9 rfl rfl rfl hl.1 rfl (Nat.le_of_ble_eq_true rfl) dX9_areAtOdds_32 ⟨Nat.zero_le _, Nat.zero_le _⟩ ?_
          obtain ⟨v5, ev5, h⟩ := bn_some h
          refine kS (As := [.int y1, .int v3]) (rest := []) SS hKK (qX9_has l D cI cM y1 v3 v5 ev5) cw48 va_P_nil rfl hl.1 rfl (Nat.le_of_ble_eq_true rfl) dX9_areAtOdds_35 ⟨Nat.zero_le _, Nat.zero_le _⟩ ?_
          refine lv_if_eq (tgt := 79) hx hb dX9_areAtOdds_38 (by decide) (fun c6 => ?_) (fun c6 => ?_)
          · have h := ifp h c6
            exact F79 k4 (fun u1 u2 u3 u4 => lX9_areAtOdds_18 z_s k4 n u1 u2 u3 u4) hk4 (fun u1 u2 u3 u4 h ls hl => ih u1 u2 u3 u4 h ls hl) y1 y3 y4 h ls (lv_sub (l' := [(0, .ref a_z), (1, .int y1), (3, .int y3), (4, .int y4)]) hl [0, 1, 3, 4] rfl)
          · have h := ifn h c6
            refine lv_iload_n hx hb dX9_areAtOdds_41 rfl (lv_at hl 1 rfl) ?_
            refine lv_aload_n hx hb dX9_areAtOdds_42 rfl (lv_at hl 0 rfl) ?_
            refine lv_iload hx hb dX9_areAtOdds_43 (lv_at hl 4 rfl) ?_
            refine lv_iconst (v := 0) hx hb dX9_areAtOdds_45 (by decide) ?_
            obtain ⟨v7, ev7, h⟩ := bn_some h
            refine kV (As := [.int y4, .int 0]) (rest := [.int y1]) SS hKK (qX9_of l D cI cM a_z a_z_s a_z_past a_z_keeps a_z_entryKey a_z_entryDefault a_z_held a_z_values a_z_kinds a_z_news z_s z_past z_pasts z_changed z_entries z_keeps z_entryKey z_entryDefault z_counter z_held z_values z_kinds z_news y4 0 v7 ev7) cw63 hs4 0 9 rfl rfl rfl hl.1 rfl (Nat.le_of_ble_eq_true rfl) dX9_areAtOdds_46 ⟨Nat.zero_le _, Nat.zero_le _⟩ ?_
            obtain ⟨v8, ev8, h⟩ := bn_some h
            refine kS (As := [.int y1, .int v7]) (rest := []) SS hKK (qX9_has l D cI cM y1 v7 v8 ev8) cw48 va_P_nil rfl hl.1 rfl (Nat.le_of_ble_eq_true rfl) dX9_areAtOdds_49 ⟨Nat.zero_le _, Nat.zero_le _⟩ ?_
            refine lv_if_eq (tgt := 79) hx hb dX9_areAtOdds_52 (by decide) (fun c9 => ?_) (fun c9 => ?_)
            · have h := ifp h c9
              exact F79 k4 (fun u1 u2 u3 u4 => lX9_areAtOdds_18 z_s k4 n u1 u2 u3 u4) hk4 (fun u1 u2 u3 u4 h ls hl => ih u1 u2 u3 u4 h ls hl) y1 y3 y4 h ls (lv_sub (l' := [(0, .ref a_z), (1, .int y1), (3, .int y3), (4, .int y4)]) hl [0, 1, 3, 4] rfl)
            · have h := ifn h c9
              refine lv_aload_n hx hb dX9_areAtOdds_55 rfl (lv_at hl 0 rfl) ?_
              refine lv_iload_n hx hb dX9_areAtOdds_56 rfl (lv_at hl 3 rfl) ?_
              refine lv_iload hx hb dX9_areAtOdds_57 (lv_at hl 4 rfl) ?_
              obtain ⟨v10, ev10, h⟩ := bn_some h
              refine kV (As := [.int y3, .int y4]) (rest := []) SS hKK (qX9_areAlikeNamed l D cI cM a_z a_z_s a_z_past a_z_keeps a_z_entryKey a_z_entryDefault a_z_held a_z_values a_z_kinds a_z_news z_s z_past z_pasts z_changed z_entries z_keeps z_entryKey z_entryDefault z_counter z_held z_values z_kinds z_news y3 y4 v10 ev10) cw70 hs4 0 9 rfl rfl rfl hl.1 rfl (Nat.le_of_ble_eq_true rfl) dX9_areAtOdds_59 ⟨Nat.zero_le _, Nat.zero_le _⟩ ?_
              refine lv_if_eq (tgt := 79) hx hb dX9_areAtOdds_62 (by decide) (fun c11 => ?_) (fun c11 => ?_)
              · have h := ifp h c11
                exact F79 k4 (fun u1 u2 u3 u4 => lX9_areAtOdds_18 z_s k4 n u1 u2 u3 u4) hk4 (fun u1 u2 u3 u4 h ls hl => ih u1 u2 u3 u4 h ls hl) y1 y3 y4 h ls (lv_sub (l' := [(0, .ref a_z), (1, .int y1), (3, .int y3), (4, .int y4)]) hl [0, 1, 3, 4] rfl)
              · have h := ifn h c11
                refine lv_aload_n hx hb dX9_areAtOdds_65 rfl (lv_at hl 0 rfl) ?_
                refine lv_iload_n hx hb dX9_areAtOdds_66 rfl (lv_at hl 3 rfl) ?_
                refine lv_iload hx hb dX9_areAtOdds_67 (lv_at hl 4 rfl) ?_
                obtain ⟨v12, ev12, h⟩ := bn_some h
                refine kV (As := [.int y3, .int y4]) (rest := []) SS hKK (qX9_haveSameList l D cI cM a_z a_z_s a_z_past a_z_keeps a_z_entryKey a_z_entryDefault a_z_held a_z_values a_z_kinds a_z_news z_s z_past z_pasts z_changed z_entries z_keeps z_entryKey z_entryDefault z_counter z_held z_values z_kinds z_news y3 y4 v12 ev12) cw73 hs4 0 9 rfl rfl rfl hl.1 rfl (Nat.le_of_ble_eq_true rfl) dX9_areAtOdds_69 ⟨Nat.zero_le _, Nat.zero_le _⟩ ?_
                refine lv_if_ne (tgt := 79) hx hb dX9_areAtOdds_72 (by decide) (fun c13 => ?_) (fun c13 => ?_)
                · have h := ifn h c13
                  exact F79 k4 (fun u1 u2 u3 u4 => lX9_areAtOdds_18 z_s k4 n u1 u2 u3 u4) hk4 (fun u1 u2 u3 u4 h ls hl => ih u1 u2 u3 u4 h ls hl) y1 y3 y4 h ls (lv_sub (l' := [(0, .ref a_z), (1, .int y1), (3, .int y3), (4, .int y4)]) hl [0, 1, 3, 4] rfl)
                · have h := ifp h c13
                  exact F75 k4 (fun u1 u2 u3 u4 => lX9_areAtOdds_18 z_s k4 n u1 u2 u3 u4) hk4 (fun u1 u2 u3 u4 h ls hl => ih u1 u2 u3 u4 h ls hl) y1 y3 y4 h ls (lv_sub (l' := [(0, .ref a_z), (1, .int y1), (3, .int y3), (4, .int y4)]) hl [0, 1, 3, 4] rfl)
  have F4 : ∀ (n : Nat) (y1 : Int32) (y2 : Int32) (y3 : Int32), lX9_areAtOdds_4 z_s n y1 y2 y3 = some r → ∀ ls : Array Slot, lv_has ls 5 [(0, .ref a_z), (1, .int y1), (2, .int y2), (3, .int y3)] → WP p l e rmX9_areAtOdds s m av below meth c r 4 ls [] := by
    intro n
    induction n with
    | zero => intro y1 y2 y3 h; exact no_some h
    | succ n ih =>
      intro y1 y2 y3 h ls hl
      rw [lX9_areAtOdds_4_s] at h
      refine lv_iload_n hx hb dX9_areAtOdds_4 rfl (lv_at hl 3 rfl) ?_
      refine lv_aload_n hx hb dX9_areAtOdds_5 rfl (lv_at hl 0 rfl) ?_
      refine va_get (D := D) (ci := 9) (v := .ref a_z_s) (C := RX9) (T := TX9) (N := 13) hx hb hts hinX9 hown hKK.1 hP 0 rfl rfl 0 (by decide) lk7 (fun _ h9 => h9) rfl dX9_areAtOdds_6 ?_
      refine lv_bipush (v := 25) hx hb dX9_areAtOdds_9 (by decide) ?_
      obtain ⟨v1, iv1, ev1, h⟩ := rd_some h
      refine kAld hx hb hKK hP 1 rfl iv1 ev1 dX9_areAtOdds_11 ?_
      refine lv_icmp_ge (tgt := 93) hx hb dX9_areAtOdds_12 (by decide) (fun c2 => ?_) (fun c2 => ?_)
      · have h := ifp h c2
        refine lv_iload_n hx hb dX9_areAtOdds_93 rfl (lv_at hl 2 rfl) ?_
        exact kRetZ hx hb hr hlk (rb_some h).2 (rb_some h).1 dX9_areAtOdds_94
      · have h := ifn h c2
        refine lv_iconst (v := 0) hx hb dX9_areAtOdds_15 (by decide) ?_
        refine lv_istore (lv' := [(4, .int 0), (0, .ref a_z), (1, .int y1), (2, .int y2), (3, .int y3)]) hx hb dX9_areAtOdds_16 hl (by decide) rfl (fun ls hl => ?_)
        exact F18 (fun u1 u2 u3 => lX9_areAtOdds_4 z_s n u1 u2 u3) (fun u1 u2 u3 h ls hl => ih u1 u2 u3 h ls hl) 5000 y1 y2 y3 0 h ls (lv_sub (l' := [(0, .ref a_z), (1, .int y1), (2, .int y2), (3, .int y3), (4, .int 0)]) hl [1, 2, 3, 4, 0] rfl)
  unfold fX9_areAtOdds at h
  refine lv_iconst (v := 0) hx hb dX9_areAtOdds_0 (by decide) ?_
  refine lv_istore_n (lv' := [(2, .int 0), (0, .ref a_z), (1, .int x1)]) hx hb dX9_areAtOdds_1 rfl hl (by decide) rfl (fun ls hl => ?_)
  refine lv_iconst (v := 0) hx hb dX9_areAtOdds_2 (by decide) ?_
  refine lv_istore_n (lv' := [(3, .int 0), (2, .int 0), (0, .ref a_z), (1, .int x1)]) hx hb dX9_areAtOdds_3 rfl hl (by decide) rfl (fun ls hl => ?_)
  exact F4 5000 x1 0 0 h ls (lv_sub (l' := [(0, .ref a_z), (1, .int x1), (2, .int 0), (3, .int 0)]) hl [2, 3, 1, 0] rfl)
set_option maxHeartbeats 8000000 in
set_option maxRecDepth 100000 in
theorem qX9_declareType (l : Launch) (D : va_G) (cI cM : ClassId) (a_z a_z_s a_z_past a_z_keeps a_z_entryKey a_z_entryDefault a_z_held a_z_values a_z_kinds a_z_news : Nat) (z_s : Nat → Int32) (z_past : Nat → Int32) (z_pasts : Int32) (z_changed : Int32) (z_entries : Int32) (z_keeps : Nat → Int32) (z_entryKey : Nat → Int32) (z_entryDefault : Nat → Int32) (z_counter : Int32) (z_held : Nat → Int32) (z_values : Nat → Int32) (z_kinds : Nat → Int32) (z_news : Nat → Int32) (x1 : Int32) (x2 : Int32) (x3 : Int32) (r : Int32) (r_z_s : Nat → Int32) (r_z_past : Nat → Int32) (r_z_pasts : Int32) (r_z_changed : Int32) (h : fX9_declareType z_s z_past z_pasts z_changed x1 x2 x3 = some (r, r_z_s, r_z_past, r_z_pasts, r_z_changed)) : IM l yX9_declareType wsX9_declareType rmX9_declareType D cI cM [.ref a_z, .int x1, .int x2, .int x3] (W_z cI cM a_z a_z_s a_z_past a_z_keeps a_z_entryKey a_z_entryDefault a_z_held a_z_values a_z_kinds a_z_news z_s z_past z_pasts z_changed z_entries z_keeps z_entryKey z_entryDefault z_counter z_held z_values z_kinds z_news) (W_z cI cM a_z a_z_s a_z_past a_z_keeps a_z_entryKey a_z_entryDefault a_z_held a_z_values a_z_kinds a_z_news r_z_s r_z_past r_z_pasts r_z_changed z_entries z_keeps z_entryKey z_entryDefault z_counter z_held z_values z_kinds z_news) (some (.int r)) := by
  refine IM.of (cc := cX9_declareType) (maxL := 6) (ret := (some .int)) (by decide) rfl (Nat.le_of_ble_eq_true rfl) ?_
  intro p e s m below meth c ls hx hb hr hml hown hts hlk hKK hP hD hS hl
  have hown : s.vm.findClass RX9 = some m.cls := hown
  have hl : lv_has ls 6 [(0, .ref a_z), (1, .int x1), (2, .int x2), (3, .int x3)] := hl
  generalize hav : ([.ref a_z, .int x1, .int x2, .int x3] : List Value) = av at hts ⊢
  generalize hw1 : W_z cI cM a_z a_z_s a_z_past a_z_keeps a_z_entryKey a_z_entryDefault a_z_held a_z_values a_z_kinds a_z_news r_z_s r_z_past r_z_pasts r_z_changed z_entries z_keeps z_entryKey z_entryDefault z_counter z_held z_values z_kinds z_news = w1
  generalize hw0 : W_z cI cM a_z a_z_s a_z_past a_z_keeps a_z_entryKey a_z_entryDefault a_z_held a_z_values a_z_kinds a_z_news z_s z_past z_pasts z_changed z_entries z_keeps z_entryKey z_entryDefault z_counter z_held z_values z_kinds z_news = w0 at hD hS ⊢
  have hP : va_P D vwCl (W_z cI cM a_z a_z_s a_z_past a_z_keeps a_z_entryKey a_z_entryDefault a_z_held a_z_values a_z_kinds a_z_news z_s z_past z_pasts z_changed z_entries z_keeps z_entryKey z_entryDefault z_counter z_held z_values z_kinds z_news) s.heap := hP
  have hD : va_D (fun q => q ∈ w0.map (·.1)) (W_z cI cM a_z a_z_s a_z_past a_z_keeps a_z_entryKey a_z_entryDefault a_z_held a_z_values a_z_kinds a_z_news z_s z_past z_pasts z_changed z_entries z_keeps z_entryKey z_entryDefault z_counter z_held z_values z_kinds z_news) := by rw [hw0]; exact hD
  have SS : CallFix p m c cX9_declareType 6 s av.toArray wsX9_declareType RX9 := ⟨hx, hb, hml, hown, hts⟩
  have hinX9 : ∀ w ∈ u_ws RX9 TX9 13, w ∈ wsX9_declareType := by decide +kernel
  have lk7 := hts (.fieldLink RX9 7 "SignatureChangerModel" "s" "[I") (List.mem_of_getElem? (i := 1) rfl)
  have cw44 : CallB rmX9_declareType s av.toArray RX9 44 yX9_in cX9_in 3 (some .boolean) wsX9_in rmX9_in 0 0 3 ∧ (Cond.static yX9_in).before av.toArray s = true := va_cwS 3 hts gX9_declareType_X9_in rfl rfl rfl (by decide +kernel) ⟨Nat.le_of_ble_eq_true rfl, Nat.le_of_ble_eq_true rfl⟩
  have cw52 : CallW rmX9_declareType s av.toArray RX9 RX9 52 yX9_closed cX9_closed 4 (some .int) wsX9_closed rmX9_closed 0 0 1 := cwV 1 hts gX9_declareType_X9_closed rfl rfl rfl (by decide +kernel) ⟨Nat.le_of_ble_eq_true rfl, Nat.le_of_ble_eq_true rfl⟩
  have cw59 : CallW rmX9_declareType s av.toArray RX9 RX9 59 yX9_isInterface cX9_isInterface 2 (some .boolean) wsX9_isInterface rmX9_isInterface 0 0 1 := cwV 1 hts gX9_declareType_X9_isInterface rfl rfl rfl (by decide +kernel) ⟨Nat.le_of_ble_eq_true rfl, Nat.le_of_ble_eq_true rfl⟩
  have cw76 : CallW rmX9_declareType s av.toArray RX9 RX9 76 yX9_allInterfaces cX9_allInterfaces 3 (some .int) wsX9_allInterfaces rmX9_allInterfaces 0 0 0 := cwV 0 hts gX9_declareType_X9_allInterfaces rfl rfl rfl (by decide +kernel) ⟨Nat.le_of_ble_eq_true rfl, Nat.le_of_ble_eq_true rfl⟩
  have cw80 : CallW rmX9_declareType s av.toArray RX9 RX9 80 yX9_isType cX9_isType 2 (some .boolean) wsX9_isType rmX9_isType 0 0 1 := cwV 1 hts gX9_declareType_X9_isType rfl rfl rfl (by decide +kernel) ⟨Nat.le_of_ble_eq_true rfl, Nat.le_of_ble_eq_true rfl⟩
  have cw83 : CallW rmX9_declareType s av.toArray RX9 RX9 83 yX9_areAtOdds cX9_areAtOdds 5 (some .boolean) wsX9_areAtOdds rmX9_areAtOdds 0 0 1 := cwV 1 hts gX9_declareType_X9_areAtOdds rfl rfl rfl (by decide +kernel) ⟨Nat.le_of_ble_eq_true rfl, Nat.le_of_ble_eq_true rfl⟩
  have cw86 : CallW rmX9_declareType s av.toArray RX9 RX9 86 yX9_edit cX9_edit 2 none wsX9_edit rmX9_edit 0 0 0 := cwV 0 hts gX9_declareType_X9_edit rfl rfl rfl (by decide +kernel) ⟨Nat.le_of_ble_eq_true rfl, Nat.le_of_ble_eq_true rfl⟩
  have F67 : ∀ (H : Heap) (locs : List Loc) (z_s : Nat → Int32) (z_past : Nat → Int32) (z_pasts : Int32) (z_changed : Int32) (y1 : Int32) (y2 : Int32) (y3 : Int32) (s1 : Int32) (s2 : Int32), jX9_declareType_67  z_s z_past z_pasts z_changed y1 y2 y3 s1 s2 = some (r, r_z_s, r_z_past, r_z_pasts, r_z_changed) → va_P D vwCl (W_z cI cM a_z a_z_s a_z_past a_z_keeps a_z_entryKey a_z_entryDefault a_z_held a_z_values a_z_kinds a_z_news z_s z_past z_pasts z_changed z_entries z_keeps z_entryKey z_entryDefault z_counter z_held z_values z_kinds z_news) H → va_D (fun q => q ∈ (w0).map (·.1)) (W_z cI cM a_z a_z_s a_z_past a_z_keeps a_z_entryKey a_z_entryDefault a_z_held a_z_values a_z_kinds a_z_news z_s z_past z_pasts z_changed z_entries z_keeps z_entryKey z_entryDefault z_counter z_held z_values z_kinds z_news) → va_S (fun q => q ∈ (w0).map (·.1)) s.heap H locs → ∀ ls : Array Slot, lv_has ls 6 [(0, .ref a_z), (1, .int y1), (2, .int y2), (3, .int y3)] → WI p l e rmX9_declareType s m av below meth c D w0 w1 (some (.int r)) H locs 67 ls [.int s2, .int s1, .ref a_z] := by
    intro H locs z_s z_past z_pasts z_changed y1 y2 y3 s1 s2 h hP hD hS ls hl
    unfold jX9_declareType_67 at h
    refine lv_ior hx hb dX9_declareType_67 ?_
    obtain ⟨v1, ev1, h⟩ := bn_some h
    have hs2 : va_P D vwCl (W_z cI cM a_z a_z_s a_z_past a_z_keeps a_z_entryKey a_z_entryDefault a_z_held a_z_values a_z_kinds a_z_news z_s z_past z_pasts z_changed z_entries z_keeps z_entryKey z_entryDefault z_counter z_held z_values z_kinds z_news) _ := hP.sub (ws' := W_z cI cM a_z a_z_s a_z_past a_z_keeps a_z_entryKey a_z_entryDefault a_z_held a_z_values a_z_kinds a_z_news z_s z_past z_pasts z_changed z_entries z_keeps z_entryKey z_entryDefault z_counter z_held z_values z_kinds z_news) [0, 1, 2, 3, 4, 5, 6, 7, 8, 9] rfl
    refine kV (As := [.int (s1 ||| s2)]) (rest := []) SS hKK (qX9_closed l D cI cM a_z a_z_s a_z_past a_z_keeps a_z_entryKey a_z_entryDefault a_z_held a_z_values a_z_kinds a_z_news z_s z_past z_pasts z_changed z_entries z_keeps z_entryKey z_entryDefault z_counter z_held z_values z_kinds z_news (s1 ||| s2) v1 ev1) cw52 hs2 0 9 rfl rfl rfl hl.1 rfl (Nat.le_of_ble_eq_true rfl) dX9_declareType_68 ⟨Nat.zero_le _, Nat.zero_le _⟩ ?_
    refine lv_istore (lv' := [(4, .int v1), (0, .ref a_z), (1, .int y1), (2, .int y2), (3, .int y3)]) hx hb dX9_declareType_71 hl (by decide) rfl (fun ls hl => ?_)
    refine lv_aload_n hx hb dX9_declareType_73 rfl (lv_at hl 1 rfl) ?_
    refine lv_iload hx hb dX9_declareType_74 (lv_at hl 0 rfl) ?_
    obtain ⟨v3, ev3, h⟩ := bn_some h
    refine kV (As := [.int v1]) (rest := []) SS hKK (qX9_areAtOdds l D cI cM a_z a_z_s a_z_past a_z_keeps a_z_entryKey a_z_entryDefault a_z_held a_z_values a_z_kinds a_z_news z_s z_past z_pasts z_changed z_entries z_keeps z_entryKey z_entryDefault z_counter z_held z_values z_kinds z_news v1 v3 ev3) cw83 hs2 0 9 rfl rfl rfl hl.1 rfl (Nat.le_of_ble_eq_true rfl) dX9_declareType_76 ⟨Nat.zero_le _, Nat.zero_le _⟩ ?_
    refine lv_if_eq (tgt := 85) hx hb dX9_declareType_79 (by decide) (fun c4 => ?_) (fun c4 => ?_)
    · have h := ifp h c4
      refine lv_aload_n hx hb dX9_declareType_85 rfl (lv_at hl 1 rfl) ?_
      refine va_get (D := D) (ci := 9) (v := .ref a_z_s) (C := RX9) (T := TX9) (N := 13) hx hb hts hinX9 hown hKK.1 hP 0 rfl rfl 0 (by decide) lk7 (fun _ h9 => h9) rfl dX9_declareType_86 ?_
      refine lv_iconst (v := 0) hx hb dX9_declareType_89 (by decide) ?_
      obtain ⟨v5, iv5, ev5, h⟩ := rd_some h
      refine kAld hx hb hKK hP 1 rfl iv5 ev5 dX9_declareType_90 ?_
      refine lv_bipush (v := 8) hx hb dX9_declareType_91 (by decide) ?_
      refine lv_icmp_ne (tgt := 99) hx hb dX9_declareType_93 (by decide) (fun c6 => ?_) (fun c6 => ?_)
      · have h := ifn h c6
        refine lv_aload_n hx hb dX9_declareType_99 rfl (lv_at hl 1 rfl) ?_
        obtain ⟨g7, g8, g9, eg7, h⟩ := bn3_some h
        refine kVI (As := []) (rest := []) (st1 := []) SS hKK (qX9_edit l D cI cM a_z a_z_s a_z_past a_z_keeps a_z_entryKey a_z_entryDefault a_z_held a_z_values a_z_kinds a_z_news z_s z_past z_pasts z_changed z_entries z_keeps z_entryKey z_entryDefault z_counter z_held z_values z_kinds z_news g7 g8 g9 eg7) cw86 hP hD hS [0, 1, 2, 3, 4, 5, 6, 7, 8, 9] rfl rfl rfl rfl 0 9 rfl rfl rfl hl.1 rfl (Nat.le_of_ble_eq_true rfl) dX9_declareType_100 ⟨Nat.zero_le _, Nat.zero_le _⟩ rfl (fun H locs hP hD hS => ?_)
        have hP : va_P D vwCl (W_z cI cM a_z a_z_s a_z_past a_z_keeps a_z_entryKey a_z_entryDefault a_z_held a_z_values a_z_kinds a_z_news z_s g7 g8 g9 z_entries z_keeps z_entryKey z_entryDefault z_counter z_held z_values z_kinds z_news) H := hP
        have hD : va_D _ (W_z cI cM a_z a_z_s a_z_past a_z_keeps a_z_entryKey a_z_entryDefault a_z_held a_z_values a_z_kinds a_z_news z_s g7 g8 g9 z_entries z_keeps z_entryKey z_entryDefault z_counter z_held z_values z_kinds z_news) := hD
        refine lv_iconst (v := 1) hx hb dX9_declareType_103 (by decide) ?_
        refine lv_iconst (v := 3) hx hb dX9_declareType_104 (by decide) ?_
        refine lv_aload_n hx hb dX9_declareType_105 rfl (lv_at hl 1 rfl) ?_
        refine va_get (D := D) (ci := 9) (v := .ref a_z_s) (C := RX9) (T := TX9) (N := 13) hx hb hts hinX9 hown hKK.1 hP 0 rfl rfl 0 (by decide) lk7 (fun _ h9 => h9) rfl dX9_declareType_106 ?_
        refine lv_iconst (v := 0) hx hb dX9_declareType_109 (by decide) ?_
        obtain ⟨v10, iv10, ev10, h⟩ := rd_some h
        refine kAld hx hb hKK hP 1 rfl iv10 ev10 dX9_declareType_110 ?_
        refine lv_imul hx hb dX9_declareType_111 ?_
        refine lv_iadd hx hb dX9_declareType_112 ?_
        refine lv_istore (lv' := [(5, .int (1 + (3 * v10))), (4, .int v1), (0, .ref a_z), (1, .int y1), (2, .int y2), (3, .int y3)]) hx hb dX9_declareType_113 hl (by decide) rfl (fun ls hl => ?_)
        refine lv_aload_n hx hb dX9_declareType_115 rfl (lv_at hl 2 rfl) ?_
        refine va_get (D := D) (ci := 9) (v := .ref a_z_s) (C := RX9) (T := TX9) (N := 13) hx hb hts hinX9 hown hKK.1 hP 0 rfl rfl 0 (by decide) lk7 (fun _ h9 => h9) rfl dX9_declareType_116 ?_
        refine lv_iload hx hb dX9_declareType_119 (lv_at hl 0 rfl) ?_
        refine lv_iload_n hx hb dX9_declareType_121 rfl (lv_at hl 3 rfl) ?_
        obtain ⟨g11, ig11, eg11, h⟩ := wr_some h
        refine kAst hx hb hKK hP hD hS 1 rfl ig11 eg11 dX9_declareType_122 (fun H locs hP hD hS => ?_)
        have hP : va_P D vwCl (W_z cI cM a_z a_z_s a_z_past a_z_keeps a_z_entryKey a_z_entryDefault a_z_held a_z_values a_z_kinds a_z_news g11 g7 g8 g9 z_entries z_keeps z_entryKey z_entryDefault z_counter z_held z_values z_kinds z_news) H := hP
        have hD : va_D _ (W_z cI cM a_z a_z_s a_z_past a_z_keeps a_z_entryKey a_z_entryDefault a_z_held a_z_values a_z_kinds a_z_news g11 g7 g8 g9 z_entries z_keeps z_entryKey z_entryDefault z_counter z_held z_values z_kinds z_news) := hD
        refine lv_aload_n hx hb dX9_declareType_123 rfl (lv_at hl 2 rfl) ?_
        refine va_get (D := D) (ci := 9) (v := .ref a_z_s) (C := RX9) (T := TX9) (N := 13) hx hb hts hinX9 hown hKK.1 hP 0 rfl rfl 0 (by decide) lk7 (fun _ h9 => h9) rfl dX9_declareType_124 ?_
        refine lv_iload hx hb dX9_declareType_127 (lv_at hl 0 rfl) ?_
        refine lv_iconst (v := 1) hx hb dX9_declareType_129 (by decide) ?_
        refine lv_iadd hx hb dX9_declareType_130 ?_
        refine lv_iload_n hx hb dX9_declareType_131 rfl (lv_at hl 4 rfl) ?_
        obtain ⟨g12, ig12, eg12, h⟩ := wr_some h
        refine kAst hx hb hKK hP hD hS 1 rfl ig12 eg12 dX9_declareType_132 (fun H locs hP hD hS => ?_)
        have hP : va_P D vwCl (W_z cI cM a_z a_z_s a_z_past a_z_keeps a_z_entryKey a_z_entryDefault a_z_held a_z_values a_z_kinds a_z_news g12 g7 g8 g9 z_entries z_keeps z_entryKey z_entryDefault z_counter z_held z_values z_kinds z_news) H := hP
        have hD : va_D _ (W_z cI cM a_z a_z_s a_z_past a_z_keeps a_z_entryKey a_z_entryDefault a_z_held a_z_values a_z_kinds a_z_news g12 g7 g8 g9 z_entries z_keeps z_entryKey z_entryDefault z_counter z_held z_values z_kinds z_news) := hD
        refine lv_aload_n hx hb dX9_declareType_133 rfl (lv_at hl 2 rfl) ?_
        refine va_get (D := D) (ci := 9) (v := .ref a_z_s) (C := RX9) (T := TX9) (N := 13) hx hb hts hinX9 hown hKK.1 hP 0 rfl rfl 0 (by decide) lk7 (fun _ h9 => h9) rfl dX9_declareType_134 ?_
        refine lv_iload hx hb dX9_declareType_137 (lv_at hl 0 rfl) ?_
        refine lv_iconst (v := 2) hx hb dX9_declareType_139 (by decide) ?_
        refine lv_iadd hx hb dX9_declareType_140 ?_
        refine lv_iload_n hx hb dX9_declareType_141 rfl (lv_at hl 5 rfl) ?_
        obtain ⟨g13, ig13, eg13, h⟩ := wr_some h
        refine kAst hx hb hKK hP hD hS 1 rfl ig13 eg13 dX9_declareType_142 (fun H locs hP hD hS => ?_)
        have hP : va_P D vwCl (W_z cI cM a_z a_z_s a_z_past a_z_keeps a_z_entryKey a_z_entryDefault a_z_held a_z_values a_z_kinds a_z_news g13 g7 g8 g9 z_entries z_keeps z_entryKey z_entryDefault z_counter z_held z_values z_kinds z_news) H := hP
        have hD : va_D _ (W_z cI cM a_z a_z_s a_z_past a_z_keeps a_z_entryKey a_z_entryDefault a_z_held a_z_values a_z_kinds a_z_news g13 g7 g8 g9 z_entries z_keeps z_entryKey z_entryDefault z_counter z_held z_values z_kinds z_news) := hD
        refine lv_aload_n hx hb dX9_declareType_143 rfl (lv_at hl 2 rfl) ?_
        refine va_get (D := D) (ci := 9) (v := .ref a_z_s) (C := RX9) (T := TX9) (N := 13) hx hb hts hinX9 hown hKK.1 hP 0 rfl rfl 0 (by decide) lk7 (fun _ h9 => h9) rfl dX9_declareType_144 ?_
        refine lv_iconst (v := 0) hx hb dX9_declareType_147 (by decide) ?_
        refine lv_dup2_11 hx hb dX9_declareType_148 rfl rfl ?_
        obtain ⟨v14, iv14, ev14, h⟩ := rd_some h
        refine kAld hx hb hKK hP 1 rfl iv14 ev14 dX9_declareType_149 ?_
        refine lv_iconst (v := 1) hx hb dX9_declareType_150 (by decide) ?_
        refine lv_iadd hx hb dX9_declareType_151 ?_
        obtain ⟨g15, ig15, eg15, h⟩ := wr_some h
        refine kAst hx hb hKK hP hD hS 1 rfl ig15 eg15 dX9_declareType_152 (fun H locs hP hD hS => ?_)
        have hP : va_P D vwCl (W_z cI cM a_z a_z_s a_z_past a_z_keeps a_z_entryKey a_z_entryDefault a_z_held a_z_values a_z_kinds a_z_news g15 g7 g8 g9 z_entries z_keeps z_entryKey z_entryDefault z_counter z_held z_values z_kinds z_news) H := hP
        have hD : va_D _ (W_z cI cM a_z a_z_s a_z_past a_z_keeps a_z_entryKey a_z_entryDefault a_z_held a_z_values a_z_kinds a_z_news g15 g7 g8 g9 z_entries z_keeps z_entryKey z_entryDefault z_counter z_held z_values z_kinds z_news) := hD
        refine lv_aload_n hx hb dX9_declareType_153 rfl (lv_at hl 2 rfl) ?_
        refine va_get (D := D) (ci := 9) (v := .ref a_z_s) (C := RX9) (T := TX9) (N := 13) hx hb hts hinX9 hown hKK.1 hP 0 rfl rfl 0 (by decide) lk7 (fun _ h9 => h9) rfl dX9_declareType_154 ?_
        refine lv_iconst (v := 0) hx hb dX9_declareType_157 (by decide) ?_
        obtain ⟨v16, iv16, ev16, h⟩ := rd_some h
        refine kAld hx hb hKK hP 1 rfl iv16 ev16 dX9_declareType_158 ?_
        refine lv_iconst (v := 1) hx hb dX9_declareType_159 (by decide) ?_
        refine lv_isub hx hb dX9_declareType_160 ?_
        simp only [Option.some.injEq, Prod.mk.injEq] at h
        obtain ⟨e0, e1, e2, e3, e4⟩ := h
        exact kRetI hx hb hr hlk e0 (by rw [← hw1, ← e1, ← e2, ← e3, ← e4]; exact hP) hS dX9_declareType_161
      · have h := ifp h c6
        refine lv_bipush (v := (-3)) hx hb dX9_declareType_96 (by decide) ?_
        simp only [Option.some.injEq, Prod.mk.injEq] at h
        obtain ⟨e0, e1, e2, e3, e4⟩ := h
        exact kRetI hx hb hr hlk e0 (by rw [← hw1, ← e1, ← e2, ← e3, ← e4]; exact hP) hS dX9_declareType_98
    · have h := ifn h c4
      refine lv_bipush (v := (-2)) hx hb dX9_declareType_82 (by decide) ?_
      simp only [Option.some.injEq, Prod.mk.injEq] at h
      obtain ⟨e0, e1, e2, e3, e4⟩ := h
      exact kRetI hx hb hr hlk e0 (by rw [← hw1, ← e1, ← e2, ← e3, ← e4]; exact hP) hS dX9_declareType_84
  have F54 : ∀ (H : Heap) (locs : List Loc) (z_s : Nat → Int32) (z_past : Nat → Int32) (z_pasts : Int32) (z_changed : Int32) (y1 : Int32) (y2 : Int32) (y3 : Int32), jX9_declareType_54  z_s z_past z_pasts z_changed y1 y2 y3 = some (r, r_z_s, r_z_past, r_z_pasts, r_z_changed) → va_P D vwCl (W_z cI cM a_z a_z_s a_z_past a_z_keeps a_z_entryKey a_z_entryDefault a_z_held a_z_values a_z_kinds a_z_news z_s z_past z_pasts z_changed z_entries z_keeps z_entryKey z_entryDefault z_counter z_held z_values z_kinds z_news) H → va_D (fun q => q ∈ (w0).map (·.1)) (W_z cI cM a_z a_z_s a_z_past a_z_keeps a_z_entryKey a_z_entryDefault a_z_held a_z_values a_z_kinds a_z_news z_s z_past z_pasts z_changed z_entries z_keeps z_entryKey z_entryDefault z_counter z_held z_values z_kinds z_news) → va_S (fun q => q ∈ (w0).map (·.1)) s.heap H locs → ∀ ls : Array Slot, lv_has ls 6 [(0, .ref a_z), (1, .int y1), (2, .int y2), (3, .int y3)] → WI p l e rmX9_declareType s m av below meth c D w0 w1 (some (.int r)) H locs 54 ls [] := by
    intro H locs z_s z_past z_pasts z_changed y1 y2 y3 h hP hD hS ls hl
    unfold jX9_declareType_54 at h
    refine lv_aload_n hx hb dX9_declareType_54 rfl (lv_at hl 0 rfl) ?_
    refine lv_iload_n hx hb dX9_declareType_55 rfl (lv_at hl 3 rfl) ?_
    refine lv_iload_n hx hb dX9_declareType_56 rfl (lv_at hl 2 rfl) ?_
    refine lv_if_ge (tgt := 64) hx hb dX9_declareType_57 (by decide) (fun c1 => ?_) (fun c1 => ?_)
    · have h := ifp h c1
      refine lv_iconst (v := 1) hx hb dX9_declareType_64 (by decide) ?_
      refine lv_iload_n hx hb dX9_declareType_65 rfl (lv_at hl 2 rfl) ?_
      refine lv_ishl hx hb dX9_declareType_66 ?_
      exact F67 H locs z_s z_past z_pasts z_changed y1 y2 y3 y3 (1 <<< (y2 &&& 31)) h hP hD hS ls (lv_sub (l' := [(0, .ref a_z), (1, .int y1), (2, .int y2), (3, .int y3)]) hl [0, 1, 2, 3] rfl)
    · have h := ifn h c1
      refine lv_iconst (v := 0) hx hb dX9_declareType_60 (by decide) ?_
      refine lv_goto (tgt := 67) hx hb dX9_declareType_61 (by decide) ?_
      exact F67 H locs z_s z_past z_pasts z_changed y1 y2 y3 y3 0 h hP hD hS ls (lv_sub (l' := [(0, .ref a_z), (1, .int y1), (2, .int y2), (3, .int y3)]) hl [0, 1, 2, 3] rfl)
  unfold fX9_declareType at h
  refine lv_iload_n hx hb dX9_declareType_0 rfl (lv_at hl 1 rfl) ?_
  refine lv_iconst (v := 0) hx hb dX9_declareType_1 (by decide) ?_
  refine lv_iconst (v := 1) hx hb dX9_declareType_2 (by decide) ?_
  obtain ⟨v1, ev1, h⟩ := bn_some h
  refine kS (As := [.int x1, .int 0, .int 1]) (rest := []) SS hKK (qX9_in l D cI cM x1 0 1 v1 ev1) cw44 va_P_nil rfl hl.1 rfl (Nat.le_of_ble_eq_true rfl) dX9_declareType_3 ⟨Nat.zero_le _, Nat.zero_le _⟩ ?_
  refine lv_if_eq (tgt := 24) hx hb dX9_declareType_6 (by decide) (fun c2 => ?_) (fun c2 => ?_)
  · have h := ifp h c2
    refine lv_iconst (v := (-1)) hx hb dX9_declareType_24 (by decide) ?_
    simp only [Option.some.injEq, Prod.mk.injEq] at h
    obtain ⟨e0, e1, e2, e3, e4⟩ := h
    exact kRetI hx hb hr hlk e0 (by rw [← hw1, ← e1, ← e2, ← e3, ← e4]; exact hP) hS dX9_declareType_25
  · have h := ifn h c2
    refine lv_iload_n hx hb dX9_declareType_9 rfl (lv_at hl 3 rfl) ?_
    refine lv_if_lt (tgt := 24) hx hb dX9_declareType_10 (by decide) (fun c3 => ?_) (fun c3 => ?_)
    · have h := ifp h c3
      refine lv_iconst (v := (-1)) hx hb dX9_declareType_24 (by decide) ?_
      simp only [Option.some.injEq, Prod.mk.injEq] at h
      obtain ⟨e0, e1, e2, e3, e4⟩ := h
      exact kRetI hx hb hr hlk e0 (by rw [← hw1, ← e1, ← e2, ← e3, ← e4]; exact hP) hS dX9_declareType_25
    · have h := ifn h c3
      refine lv_iload_n hx hb dX9_declareType_13 rfl (lv_at hl 3 rfl) ?_
      refine lv_aload_n hx hb dX9_declareType_14 rfl (lv_at hl 0 rfl) ?_
      obtain ⟨v4, ev4, h⟩ := bn_some h
      have hs5 : va_P D vwCl (W_z cI cM a_z a_z_s a_z_past a_z_keeps a_z_entryKey a_z_entryDefault a_z_held a_z_values a_z_kinds a_z_news z_s z_past z_pasts z_changed z_entries z_keeps z_entryKey z_entryDefault z_counter z_held z_values z_kinds z_news) _ := hP.sub (ws' := W_z cI cM a_z a_z_s a_z_past a_z_keeps a_z_entryKey a_z_entryDefault a_z_held a_z_values a_z_kinds a_z_news z_s z_past z_pasts z_changed z_entries z_keeps z_entryKey z_entryDefault z_counter z_held z_values z_kinds z_news) [0, 1, 2, 3, 4, 5, 6, 7, 8, 9] rfl
      refine kV (As := []) (rest := [.int x3]) SS hKK (qX9_allInterfaces l D cI cM a_z a_z_s a_z_past a_z_keeps a_z_entryKey a_z_entryDefault a_z_held a_z_values a_z_kinds a_z_news z_s z_past z_pasts z_changed z_entries z_keeps z_entryKey z_entryDefault z_counter z_held z_values z_kinds z_news v4 ev4) cw76 hs5 0 9 rfl rfl rfl hl.1 rfl (Nat.le_of_ble_eq_true rfl) dX9_declareType_15 ⟨Nat.zero_le _, Nat.zero_le _⟩ ?_
      refine lv_iconst (v := (-1)) hx hb dX9_declareType_18 (by decide) ?_
      refine lv_ixor hx hb dX9_declareType_19 ?_
      refine lv_iand hx hb dX9_declareType_20 ?_
      refine lv_if_eq (tgt := 26) hx hb dX9_declareType_21 (by decide) (fun c6 => ?_) (fun c6 => ?_)
      · have h := ifp h c6
        refine lv_iload_n hx hb dX9_declareType_26 rfl (lv_at hl 2 rfl) ?_
        refine lv_iconst (v := (-1)) hx hb dX9_declareType_27 (by decide) ?_
        refine lv_icmp_eq (tgt := 54) hx hb dX9_declareType_28 (by decide) (fun c7 => ?_) (fun c7 => ?_)
        · have h := ifp h c7
          exact F54 s.heap [] z_s z_past z_pasts z_changed x1 x2 x3 h hP hD hS ls (lv_sub (l' := [(0, .ref a_z), (1, .int x1), (2, .int x2), (3, .int x3)]) hl [0, 1, 2, 3] rfl)
        · have h := ifn h c7
          refine lv_iload_n hx hb dX9_declareType_31 rfl (lv_at hl 1 rfl) ?_
          refine lv_iconst (v := 1) hx hb dX9_declareType_32 (by decide) ?_
          refine lv_icmp_eq (tgt := 52) hx hb dX9_declareType_33 (by decide) (fun c8 => ?_) (fun c8 => ?_)
          · have h := ifp h c8
            refine lv_iconst (v := (-1)) hx hb dX9_declareType_52 (by decide) ?_
            simp only [Option.some.injEq, Prod.mk.injEq] at h
            obtain ⟨e0, e1, e2, e3, e4⟩ := h
            exact kRetI hx hb hr hlk e0 (by rw [← hw1, ← e1, ← e2, ← e3, ← e4]; exact hP) hS dX9_declareType_53
          · have h := ifn h c8
            refine lv_aload_n hx hb dX9_declareType_36 rfl (lv_at hl 0 rfl) ?_
            refine lv_iload_n hx hb dX9_declareType_37 rfl (lv_at hl 2 rfl) ?_
            obtain ⟨v9, ev9, h⟩ := bn_some h
            refine kV (As := [.int x2]) (rest := []) SS hKK (qX9_isType l D cI cM a_z a_z_s a_z_past a_z_keeps a_z_entryKey a_z_entryDefault a_z_held a_z_values a_z_kinds a_z_news z_s z_past z_pasts z_changed z_entries z_keeps z_entryKey z_entryDefault z_counter z_held z_values z_kinds z_news x2 v9 ev9) cw80 hs5 0 9 rfl rfl rfl hl.1 rfl (Nat.le_of_ble_eq_true rfl) dX9_declareType_38 ⟨Nat.zero_le _, Nat.zero_le _⟩ ?_
            refine lv_if_eq (tgt := 52) hx hb dX9_declareType_41 (by decide) (fun c10 => ?_) (fun c10 => ?_)
            · have h := ifp h c10
              refine lv_iconst (v := (-1)) hx hb dX9_declareType_52 (by decide) ?_
              simp only [Option.some.injEq, Prod.mk.injEq] at h
              obtain ⟨e0, e1, e2, e3, e4⟩ := h
              exact kRetI hx hb hr hlk e0 (by rw [← hw1, ← e1, ← e2, ← e3, ← e4]; exact hP) hS dX9_declareType_53
            · have h := ifn h c10
              refine lv_aload_n hx hb dX9_declareType_44 rfl (lv_at hl 0 rfl) ?_
              refine lv_iload_n hx hb dX9_declareType_45 rfl (lv_at hl 2 rfl) ?_
              obtain ⟨v11, ev11, h⟩ := bn_some h
              refine kV (As := [.int x2]) (rest := []) SS hKK (qX9_isInterface l D cI cM a_z a_z_s a_z_past a_z_keeps a_z_entryKey a_z_entryDefault a_z_held a_z_values a_z_kinds a_z_news z_s z_past z_pasts z_changed z_entries z_keeps z_entryKey z_entryDefault z_counter z_held z_values z_kinds z_news x2 v11 ev11) cw59 hs5 0 9 rfl rfl rfl hl.1 rfl (Nat.le_of_ble_eq_true rfl) dX9_declareType_46 ⟨Nat.zero_le _, Nat.zero_le _⟩ ?_
              refine lv_if_eq (tgt := 54) hx hb dX9_declareType_49 (by decide) (fun c12 => ?_) (fun c12 => ?_)
              · have h := ifp h c12
                exact F54 s.heap [] z_s z_past z_pasts z_changed x1 x2 x3 h hP hD hS ls (lv_sub (l' := [(0, .ref a_z), (1, .int x1), (2, .int x2), (3, .int x3)]) hl [0, 1, 2, 3] rfl)
              · have h := ifn h c12
                refine lv_iconst (v := (-1)) hx hb dX9_declareType_52 (by decide) ?_
                simp only [Option.some.injEq, Prod.mk.injEq] at h
                obtain ⟨e0, e1, e2, e3, e4⟩ := h
                exact kRetI hx hb hr hlk e0 (by rw [← hw1, ← e1, ← e2, ← e3, ← e4]; exact hP) hS dX9_declareType_53
      · have h := ifn h c6
        refine lv_iconst (v := (-1)) hx hb dX9_declareType_24 (by decide) ?_
        simp only [Option.some.injEq, Prod.mk.injEq] at h
        obtain ⟨e0, e1, e2, e3, e4⟩ := h
        exact kRetI hx hb hr hlk e0 (by rw [← hw1, ← e1, ← e2, ← e3, ← e4]; exact hP) hS dX9_declareType_25
set_option maxHeartbeats 8000000 in
set_option maxRecDepth 100000 in
theorem qX9_relatives (l : Launch) (D : va_G) (cI cM : ClassId) (a_z a_z_s a_z_past a_z_keeps a_z_entryKey a_z_entryDefault a_z_held a_z_values a_z_kinds a_z_news : Nat) (z_s : Nat → Int32) (z_past : Nat → Int32) (z_pasts : Int32) (z_changed : Int32) (z_entries : Int32) (z_keeps : Nat → Int32) (z_entryKey : Nat → Int32) (z_entryDefault : Nat → Int32) (z_counter : Int32) (z_held : Nat → Int32) (z_values : Nat → Int32) (z_kinds : Nat → Int32) (z_news : Nat → Int32) (x1 : Int32) (x2 : Int32) (x3 : Int32) (r : Int32) (h : fX9_relatives z_s x1 x2 x3 = some r) : PM l yX9_relatives wsX9_relatives rmX9_relatives D cI cM [.ref a_z, .int x1, .int x2, .int x3] (W_z cI cM a_z a_z_s a_z_past a_z_keeps a_z_entryKey a_z_entryDefault a_z_held a_z_values a_z_kinds a_z_news z_s z_past z_pasts z_changed z_entries z_keeps z_entryKey z_entryDefault z_counter z_held z_values z_kinds z_news) r := by
  refine PM.of (cc := cX9_relatives) (maxL := 6) (ret := (some .int)) (by decide) rfl (Nat.le_of_ble_eq_true rfl) ?_
  intro p e s m below meth c ls hx hb hr hml hown hts hlk hP hKK hl
  have hown : s.vm.findClass RX9 = some m.cls := hown
  have hl : lv_has ls 6 [(0, .ref a_z), (1, .int x1), (2, .int x2), (3, .int x3)] := hl
  generalize hav : ([.ref a_z, .int x1, .int x2, .int x3] : List Value) = av at hts ⊢
  have SS : CallFix p m c cX9_relatives 6 s av.toArray wsX9_relatives RX9 := ⟨hx, hb, hml, hown, hts⟩
  have hinX9 : ∀ w ∈ u_ws RX9 TX9 13, w ∈ wsX9_relatives := by decide +kernel
  have lk7 := hts (.fieldLink RX9 7 "SignatureChangerModel" "s" "[I") (List.mem_of_getElem? (i := 1) rfl)
  have cw63 : CallW rmX9_relatives s av.toArray RX9 RX9 63 yX9_of cX9_of 3 (some .int) wsX9_of rmX9_of 0 0 2 := cwV 2 hts gX9_relatives_X9_of rfl rfl rfl (by decide +kernel) ⟨Nat.le_of_ble_eq_true rfl, Nat.le_of_ble_eq_true rfl⟩
  have cw67 : CallW rmX9_relatives s av.toArray RX9 RX9 67 yX9_isNamed cX9_isNamed 4 (some .boolean) wsX9_isNamed rmX9_isNamed 0 0 3 := cwV 3 hts gX9_relatives_X9_isNamed rfl rfl rfl (by decide +kernel) ⟨Nat.le_of_ble_eq_true rfl, Nat.le_of_ble_eq_true rfl⟩
  have cw89 : CallW rmX9_relatives s av.toArray RX9 RX9 89 yX9_areConnected cX9_areConnected 5 (some .boolean) wsX9_areConnected rmX9_areConnected 0 0 2 := cwV 2 hts gX9_relatives_X9_areConnected rfl rfl rfl (by decide +kernel) ⟨Nat.le_of_ble_eq_true rfl, Nat.le_of_ble_eq_true rfl⟩
  have F54 : ∀ (k6 : Int32 → Int32 → Int32 → Int32 → Int32 → Option (Int32)) (hk6 : ∀ (u1 : Int32) (u2 : Int32) (u3 : Int32) (u4 : Int32) (u5 : Int32), k6 u1 u2 u3 u4 u5 = some r → ∀ ls : Array Slot, lv_has ls 6 [(0, .ref a_z), (1, .int u1), (2, .int u2), (3, .int u3), (4, .int u4), (5, .int u5)] → WP p l e rmX9_relatives s m av below meth c r 6 ls []), ∀ (y1 : Int32) (y2 : Int32) (y3 : Int32) (y5 : Int32) (s0 : Int32) (s1 : Int32), jX9_relatives_54 z_s k6 y1 y2 y3 y5 s0 s1 = some r → ∀ ls : Array Slot, lv_has ls 6 [(0, .ref a_z), (1, .int y1), (2, .int y2), (3, .int y3), (5, .int y5)] → WP p l e rmX9_relatives s m av below meth c r 54 ls [.int s1, .int s0] := by
    intro k6 hk6
    intro y1 y2 y3 y5 s0 s1 h ls hl
    unfold jX9_relatives_54 at h
    refine lv_ior hx hb dX9_relatives_54 ?_
    refine lv_istore (lv' := [(4, .int (s0 ||| s1)), (0, .ref a_z), (1, .int y1), (2, .int y2), (3, .int y3), (5, .int y5)]) hx hb dX9_relatives_55 hl (by decide) rfl (fun ls hl => ?_)
    refine lv_iinc (v := y5 + 1) (lv' := [(5, .int (y5 + 1)), (4, .int (s0 ||| s1)), (0, .ref a_z), (1, .int y1), (2, .int y2), (3, .int y3)]) hx hb dX9_relatives_57 hl (k := 5) rfl rfl (by decide) rfl (fun ls hl => ?_)
    refine lv_goto (tgt := 6) hx hb dX9_relatives_60 (by decide) ?_
    exact hk6 y1 y2 y3 (s0 ||| s1) (y5 + 1) h ls (lv_sub (l' := [(0, .ref a_z), (1, .int y1), (2, .int y2), (3, .int y3), (4, .int (s0 ||| s1)), (5, .int (y5 + 1))]) hl [2, 3, 4, 5, 1, 0] rfl)
  have F53 : ∀ (k6 : Int32 → Int32 → Int32 → Int32 → Int32 → Option (Int32)) (hk6 : ∀ (u1 : Int32) (u2 : Int32) (u3 : Int32) (u4 : Int32) (u5 : Int32), k6 u1 u2 u3 u4 u5 = some r → ∀ ls : Array Slot, lv_has ls 6 [(0, .ref a_z), (1, .int u1), (2, .int u2), (3, .int u3), (4, .int u4), (5, .int u5)] → WP p l e rmX9_relatives s m av below meth c r 6 ls []), ∀ (y1 : Int32) (y2 : Int32) (y3 : Int32) (y5 : Int32) (s0 : Int32), jX9_relatives_53 z_s k6 y1 y2 y3 y5 s0 = some r → ∀ ls : Array Slot, lv_has ls 6 [(0, .ref a_z), (1, .int y1), (2, .int y2), (3, .int y3), (5, .int y5)] → WP p l e rmX9_relatives s m av below meth c r 53 ls [.int s0] := by
    intro k6 hk6
    intro y1 y2 y3 y5 s0 h ls hl
    unfold jX9_relatives_53 at h
    refine lv_iconst (v := 0) hx hb dX9_relatives_53 (by decide) ?_
    exact F54 k6 hk6 y1 y2 y3 y5 s0 0 h ls (lv_sub (l' := [(0, .ref a_z), (1, .int y1), (2, .int y2), (3, .int y3), (5, .int y5)]) hl [0, 1, 2, 3, 4] rfl)
  have F6 : ∀ (n : Nat) (y1 : Int32) (y2 : Int32) (y3 : Int32) (y4 : Int32) (y5 : Int32), lX9_relatives_6 z_s n y1 y2 y3 y4 y5 = some r → ∀ ls : Array Slot, lv_has ls 6 [(0, .ref a_z), (1, .int y1), (2, .int y2), (3, .int y3), (4, .int y4), (5, .int y5)] → WP p l e rmX9_relatives s m av below meth c r 6 ls [] := by
    intro n
    induction n with
    | zero => intro y1 y2 y3 y4 y5 h; exact no_some h
    | succ n ih =>
      intro y1 y2 y3 y4 y5 h ls hl
      rw [lX9_relatives_6_s] at h
      refine lv_iload hx hb dX9_relatives_6 (lv_at hl 5 rfl) ?_
      refine lv_aload_n hx hb dX9_relatives_8 rfl (lv_at hl 0 rfl) ?_
      refine va_get (D := D) (ci := 9) (v := .ref a_z_s) (C := RX9) (T := TX9) (N := 13) hx hb hts hinX9 hown hKK.1 hP 0 rfl rfl 0 (by decide) lk7 (fun _ h9 => h9) rfl dX9_relatives_9 ?_
      refine lv_bipush (v := 25) hx hb dX9_relatives_12 (by decide) ?_
      obtain ⟨v1, iv1, ev1, h⟩ := rd_some h
      refine kAld hx hb hKK hP 1 rfl iv1 ev1 dX9_relatives_14 ?_
      refine lv_icmp_ge (tgt := 63) hx hb dX9_relatives_15 (by decide) (fun c2 => ?_) (fun c2 => ?_)
      · have h := ifp h c2
        refine lv_iload hx hb dX9_relatives_63 (lv_at hl 4 rfl) ?_
        exact kRet hx hb hr hlk (Option.some.inj h) dX9_relatives_65
      · have h := ifn h c2
        refine lv_iload hx hb dX9_relatives_18 (lv_at hl 4 rfl) ?_
        refine lv_aload_n hx hb dX9_relatives_20 rfl (lv_at hl 0 rfl) ?_
        refine lv_iload hx hb dX9_relatives_21 (lv_at hl 5 rfl) ?_
        refine lv_iload_n hx hb dX9_relatives_23 rfl (lv_at hl 2 rfl) ?_
        refine lv_iload_n hx hb dX9_relatives_24 rfl (lv_at hl 3 rfl) ?_
        obtain ⟨v3, ev3, h⟩ := bn_some h
        have hs4 : va_P D vwCl (W_z cI cM a_z a_z_s a_z_past a_z_keeps a_z_entryKey a_z_entryDefault a_z_held a_z_values a_z_kinds a_z_news z_s z_past z_pasts z_changed z_entries z_keeps z_entryKey z_entryDefault z_counter z_held z_values z_kinds z_news) _ := hP.sub (ws' := W_z cI cM a_z a_z_s a_z_past a_z_keeps a_z_entryKey a_z_entryDefault a_z_held a_z_values a_z_kinds a_z_news z_s z_past z_pasts z_changed z_entries z_keeps z_entryKey z_entryDefault z_counter z_held z_values z_kinds z_news) [0, 1, 2, 3, 4, 5, 6, 7, 8, 9] rfl
        refine kV (As := [.int y5, .int y2, .int y3]) (rest := [.int y4]) SS hKK (qX9_isNamed l D cI cM a_z a_z_s a_z_past a_z_keeps a_z_entryKey a_z_entryDefault a_z_held a_z_values a_z_kinds a_z_news z_s z_past z_pasts z_changed z_entries z_keeps z_entryKey z_entryDefault z_counter z_held z_values z_kinds z_news y5 y2 y3 v3 ev3) cw67 hs4 0 9 rfl rfl rfl hl.1 rfl (Nat.le_of_ble_eq_true rfl) dX9_relatives_25 ⟨Nat.zero_le _, Nat.zero_le _⟩ ?_
        refine lv_if_eq (tgt := 53) hx hb dX9_relatives_28 (by decide) (fun c5 => ?_) (fun c5 => ?_)
        · have h := ifp h c5
          exact F53 (fun u1 u2 u3 u4 u5 => lX9_relatives_6 z_s n u1 u2 u3 u4 u5) (fun u1 u2 u3 u4 u5 h ls hl => ih u1 u2 u3 u4 u5 h ls hl) y1 y2 y3 y5 y4 h ls (lv_sub (l' := [(0, .ref a_z), (1, .int y1), (2, .int y2), (3, .int y3), (5, .int y5)]) hl [0, 1, 2, 3, 5] rfl)
        · have h := ifn h c5
          refine lv_aload_n hx hb dX9_relatives_31 rfl (lv_at hl 0 rfl) ?_
          refine lv_iload_n hx hb dX9_relatives_32 rfl (lv_at hl 1 rfl) ?_
          refine lv_aload_n hx hb dX9_relatives_33 rfl (lv_at hl 0 rfl) ?_
          refine lv_iload hx hb dX9_relatives_34 (lv_at hl 5 rfl) ?_
          refine lv_iconst (v := 0) hx hb dX9_relatives_36 (by decide) ?_
          obtain ⟨v6, ev6, h⟩ := bn_some h
          refine kV (As := [.int y5, .int 0]) (rest := [.int y1, .ref a_z, .int y4]) SS hKK (qX9_of l D cI cM a_z a_z_s a_z_past a_z_keeps a_z_entryKey a_z_entryDefault a_z_held a_z_values a_z_kinds a_z_news z_s z_past z_pasts z_changed z_entries z_keeps z_entryKey z_entryDefault z_counter z_held z_values z_kinds z_news y5 0 v6 ev6) cw63 hs4 0 9 rfl rfl rfl hl.1 rfl (Nat.le_of_ble_eq_true rfl) dX9_relatives_37 ⟨Nat.zero_le _, Nat.zero_le _⟩ ?_
          obtain ⟨v7, ev7, h⟩ := bn_some h
          refine kV (As := [.int y1, .int v6]) (rest := [.int y4]) SS hKK (qX9_areConnected l D cI cM a_z a_z_s a_z_past a_z_keeps a_z_entryKey a_z_entryDefault a_z_held a_z_values a_z_kinds a_z_news z_s z_past z_pasts z_changed z_entries z_keeps z_entryKey z_entryDefault z_counter z_held z_values z_kinds z_news y1 v6 v7 ev7) cw89 hs4 0 9 rfl rfl rfl hl.1 rfl (Nat.le_of_ble_eq_true rfl) dX9_relatives_40 ⟨Nat.zero_le _, Nat.zero_le _⟩ ?_
          refine lv_if_eq (tgt := 53) hx hb dX9_relatives_43 (by decide) (fun c8 => ?_) (fun c8 => ?_)
          · have h := ifp h c8
            exact F53 (fun u1 u2 u3 u4 u5 => lX9_relatives_6 z_s n u1 u2 u3 u4 u5) (fun u1 u2 u3 u4 u5 h ls hl => ih u1 u2 u3 u4 u5 h ls hl) y1 y2 y3 y5 y4 h ls (lv_sub (l' := [(0, .ref a_z), (1, .int y1), (2, .int y2), (3, .int y3), (5, .int y5)]) hl [0, 1, 2, 3, 5] rfl)
          · have h := ifn h c8
            refine lv_iconst (v := 1) hx hb dX9_relatives_46 (by decide) ?_
            refine lv_iload hx hb dX9_relatives_47 (lv_at hl 5 rfl) ?_
            refine lv_ishl hx hb dX9_relatives_49 ?_
            refine lv_goto (tgt := 54) hx hb dX9_relatives_50 (by decide) ?_
            exact F54 (fun u1 u2 u3 u4 u5 => lX9_relatives_6 z_s n u1 u2 u3 u4 u5) (fun u1 u2 u3 u4 u5 h ls hl => ih u1 u2 u3 u4 u5 h ls hl) y1 y2 y3 y5 y4 (1 <<< (y5 &&& 31)) h ls (lv_sub (l' := [(0, .ref a_z), (1, .int y1), (2, .int y2), (3, .int y3), (5, .int y5)]) hl [0, 1, 2, 3, 5] rfl)
  unfold fX9_relatives at h
  refine lv_iconst (v := 0) hx hb dX9_relatives_0 (by decide) ?_
  refine lv_istore (lv' := [(4, .int 0), (0, .ref a_z), (1, .int x1), (2, .int x2), (3, .int x3)]) hx hb dX9_relatives_1 hl (by decide) rfl (fun ls hl => ?_)
  refine lv_iconst (v := 0) hx hb dX9_relatives_3 (by decide) ?_
  refine lv_istore (lv' := [(5, .int 0), (4, .int 0), (0, .ref a_z), (1, .int x1), (2, .int x2), (3, .int x3)]) hx hb dX9_relatives_4 hl (by decide) rfl (fun ls hl => ?_)
  exact F6 5000 x1 x2 x3 0 0 h ls (lv_sub (l' := [(0, .ref a_z), (1, .int x1), (2, .int x2), (3, .int x3), (4, .int 0), (5, .int 0)]) hl [2, 3, 4, 5, 1, 0] rfl)
set_option maxHeartbeats 8000000 in
set_option maxRecDepth 100000 in
theorem qX9_lowest (l : Launch) (D : va_G) (cI cM : ClassId) (a_z a_z_s a_z_past a_z_keeps a_z_entryKey a_z_entryDefault a_z_held a_z_values a_z_kinds a_z_news : Nat) (z_s : Nat → Int32) (z_past : Nat → Int32) (z_pasts : Int32) (z_changed : Int32) (z_entries : Int32) (z_keeps : Nat → Int32) (z_entryKey : Nat → Int32) (z_entryDefault : Nat → Int32) (z_counter : Int32) (z_held : Nat → Int32) (z_values : Nat → Int32) (z_kinds : Nat → Int32) (z_news : Nat → Int32) (x1 : Int32) (r : Int32) (h : fX9_lowest x1 = some r) : PM l yX9_lowest wsX9_lowest rmX9_lowest D cI cM [.ref a_z, .int x1] (W_z cI cM a_z a_z_s a_z_past a_z_keeps a_z_entryKey a_z_entryDefault a_z_held a_z_values a_z_kinds a_z_news z_s z_past z_pasts z_changed z_entries z_keeps z_entryKey z_entryDefault z_counter z_held z_values z_kinds z_news) r := by
  refine PM.of (cc := cX9_lowest) (maxL := 3) (ret := (some .int)) (by decide) rfl (Nat.le_of_ble_eq_true rfl) ?_
  intro p e s m below meth c ls hx hb hr hml hown hts hlk hP hKK hl
  have hown : s.vm.findClass RX9 = some m.cls := hown
  have hl : lv_has ls 3 [(0, .ref a_z), (1, .int x1)] := hl
  generalize hav : ([.ref a_z, .int x1] : List Value) = av at hts ⊢
  have SS : CallFix p m c cX9_lowest 3 s av.toArray wsX9_lowest RX9 := ⟨hx, hb, hml, hown, hts⟩
  have cw48 : CallB rmX9_lowest s av.toArray RX9 48 yX9_has cX9_has 2 (some .boolean) wsX9_has rmX9_has 0 0 2 ∧ (Cond.static yX9_has).before av.toArray s = true := va_cwS 2 hts gX9_lowest_X9_has rfl rfl rfl (by decide +kernel) ⟨Nat.le_of_ble_eq_true rfl, Nat.le_of_ble_eq_true rfl⟩
  have F2 : ∀ (n : Nat) (y1 : Int32) (y2 : Int32), lX9_lowest_2  n y1 y2 = some r → ∀ ls : Array Slot, lv_has ls 3 [(1, .int y1), (2, .int y2)] → WP p l e rmX9_lowest s m av below meth c r 2 ls [] := by
    intro n
    induction n with
    | zero => intro y1 y2 h; exact no_some h
    | succ n ih =>
      intro y1 y2 h ls hl
      rw [lX9_lowest_2_s] at h
      refine lv_iload_n hx hb dX9_lowest_2 rfl (lv_at hl 0 rfl) ?_
      refine lv_iload_n hx hb dX9_lowest_3 rfl (lv_at hl 1 rfl) ?_
      obtain ⟨v1, ev1, h⟩ := bn_some h
      refine kS (As := [.int y1, .int y2]) (rest := []) SS hKK (qX9_has l D cI cM y1 y2 v1 ev1) cw48 va_P_nil rfl hl.1 rfl (Nat.le_of_ble_eq_true rfl) dX9_lowest_4 ⟨Nat.zero_le _, Nat.zero_le _⟩ ?_
      refine lv_if_ne (tgt := 16) hx hb dX9_lowest_7 (by decide) (fun c2 => ?_) (fun c2 => ?_)
      · have h := ifn h c2
        refine lv_iload_n hx hb dX9_lowest_16 rfl (lv_at hl 1 rfl) ?_
        exact kRet hx hb hr hlk (Option.some.inj h) dX9_lowest_17
      · have h := ifp h c2
        refine lv_iinc (v := y2 + 1) (lv' := [(2, .int (y2 + 1)), (1, .int y1)]) hx hb dX9_lowest_10 hl (k := 1) rfl rfl (by decide) rfl (fun ls hl => ?_)
        refine lv_goto (tgt := 2) hx hb dX9_lowest_13 (by decide) ?_
        exact ih y1 (y2 + 1) h ls (lv_sub (l' := [(1, .int y1), (2, .int (y2 + 1))]) hl [1, 0] rfl)
  unfold fX9_lowest at h
  refine lv_iconst (v := 0) hx hb dX9_lowest_0 (by decide) ?_
  refine lv_istore_n (lv' := [(2, .int 0), (0, .ref a_z), (1, .int x1)]) hx hb dX9_lowest_1 rfl hl (by decide) rfl (fun ls hl => ?_)
  exact F2 5000 x1 0 h ls (lv_sub (l' := [(1, .int x1), (2, .int 0)]) hl [2, 0] rfl)
set_option maxHeartbeats 8000000 in
set_option maxRecDepth 100000 in
theorem qX9_haveOneList (l : Launch) (D : va_G) (cI cM : ClassId) (a_z a_z_s a_z_past a_z_keeps a_z_entryKey a_z_entryDefault a_z_held a_z_values a_z_kinds a_z_news : Nat) (z_s : Nat → Int32) (z_past : Nat → Int32) (z_pasts : Int32) (z_changed : Int32) (z_entries : Int32) (z_keeps : Nat → Int32) (z_entryKey : Nat → Int32) (z_entryDefault : Nat → Int32) (z_counter : Int32) (z_held : Nat → Int32) (z_values : Nat → Int32) (z_kinds : Nat → Int32) (z_news : Nat → Int32) (x1 : Int32) (r : Int32) (h : fX9_haveOneList z_s x1 = some r) : PM l yX9_haveOneList wsX9_haveOneList rmX9_haveOneList D cI cM [.ref a_z, .int x1] (W_z cI cM a_z a_z_s a_z_past a_z_keeps a_z_entryKey a_z_entryDefault a_z_held a_z_values a_z_kinds a_z_news z_s z_past z_pasts z_changed z_entries z_keeps z_entryKey z_entryDefault z_counter z_held z_values z_kinds z_news) r := by
  refine PM.of (cc := cX9_haveOneList) (maxL := 4) (ret := (some .boolean)) (by decide) rfl (Nat.le_of_ble_eq_true rfl) ?_
  intro p e s m below meth c ls hx hb hr hml hown hts hlk hP hKK hl
  have hown : s.vm.findClass RX9 = some m.cls := hown
  have hl : lv_has ls 4 [(0, .ref a_z), (1, .int x1)] := hl
  generalize hav : ([.ref a_z, .int x1] : List Value) = av at hts ⊢
  have SS : CallFix p m c cX9_haveOneList 4 s av.toArray wsX9_haveOneList RX9 := ⟨hx, hb, hml, hown, hts⟩
  have hinX9 : ∀ w ∈ u_ws RX9 TX9 13, w ∈ wsX9_haveOneList := by decide +kernel
  have lk7 := hts (.fieldLink RX9 7 "SignatureChangerModel" "s" "[I") (List.mem_of_getElem? (i := 1) rfl)
  have cw48 : CallB rmX9_haveOneList s av.toArray RX9 48 yX9_has cX9_has 2 (some .boolean) wsX9_has rmX9_has 0 0 2 ∧ (Cond.static yX9_has).before av.toArray s = true := va_cwS 2 hts gX9_haveOneList_X9_has rfl rfl rfl (by decide +kernel) ⟨Nat.le_of_ble_eq_true rfl, Nat.le_of_ble_eq_true rfl⟩
  have cw73 : CallW rmX9_haveOneList s av.toArray RX9 RX9 73 yX9_haveSameList cX9_haveSameList 5 (some .boolean) wsX9_haveSameList rmX9_haveSameList 0 0 2 := cwV 2 hts gX9_haveOneList_X9_haveSameList rfl rfl rfl (by decide +kernel) ⟨Nat.le_of_ble_eq_true rfl, Nat.le_of_ble_eq_true rfl⟩
  have cw92 : CallW rmX9_haveOneList s av.toArray RX9 RX9 92 yX9_lowest cX9_lowest 3 (some .int) wsX9_lowest rmX9_lowest 0 0 1 := cwV 1 hts gX9_haveOneList_X9_lowest rfl rfl rfl (by decide +kernel) ⟨Nat.le_of_ble_eq_true rfl, Nat.le_of_ble_eq_true rfl⟩
  have F45 : ∀ (k4 : Int32 → Int32 → Int32 → Option (Int32)) (hk4 : ∀ (u1 : Int32) (u2 : Int32) (u3 : Int32), k4 u1 u2 u3 = some r → ∀ ls : Array Slot, lv_has ls 4 [(0, .ref a_z), (1, .int u1), (2, .int u2), (3, .int u3)] → WP p l e rmX9_haveOneList s m av below meth c r 4 ls []), ∀ (y1 : Int32) (y3 : Int32) (s0 : Int32), jX9_haveOneList_45 z_s k4 y1 y3 s0 = some r → ∀ ls : Array Slot, lv_has ls 4 [(0, .ref a_z), (1, .int y1), (3, .int y3)] → WP p l e rmX9_haveOneList s m av below meth c r 45 ls [.int s0] := by
    intro k4 hk4
    intro y1 y3 s0 h ls hl
    unfold jX9_haveOneList_45 at h
    refine lv_istore_n (lv' := [(2, .int s0), (0, .ref a_z), (1, .int y1), (3, .int y3)]) hx hb dX9_haveOneList_45 rfl hl (by decide) rfl (fun ls hl => ?_)
    refine lv_iinc (v := y3 + 1) (lv' := [(3, .int (y3 + 1)), (2, .int s0), (0, .ref a_z), (1, .int y1)]) hx hb dX9_haveOneList_46 hl (k := 3) rfl rfl (by decide) rfl (fun ls hl => ?_)
    refine lv_goto (tgt := 4) hx hb dX9_haveOneList_49 (by decide) ?_
    exact hk4 y1 s0 (y3 + 1) h ls (lv_sub (l' := [(0, .ref a_z), (1, .int y1), (2, .int s0), (3, .int (y3 + 1))]) hl [2, 3, 1, 0] rfl)
  have F44 : ∀ (k4 : Int32 → Int32 → Int32 → Option (Int32)) (hk4 : ∀ (u1 : Int32) (u2 : Int32) (u3 : Int32), k4 u1 u2 u3 = some r → ∀ ls : Array Slot, lv_has ls 4 [(0, .ref a_z), (1, .int u1), (2, .int u2), (3, .int u3)] → WP p l e rmX9_haveOneList s m av below meth c r 4 ls []), ∀ (y1 : Int32) (y3 : Int32), jX9_haveOneList_44 z_s k4 y1 y3 = some r → ∀ ls : Array Slot, lv_has ls 4 [(0, .ref a_z), (1, .int y1), (3, .int y3)] → WP p l e rmX9_haveOneList s m av below meth c r 44 ls [] := by
    intro k4 hk4
    intro y1 y3 h ls hl
    unfold jX9_haveOneList_44 at h
    refine lv_iconst (v := 0) hx hb dX9_haveOneList_44 (by decide) ?_
    exact F45 k4 hk4 y1 y3 0 h ls (lv_sub (l' := [(0, .ref a_z), (1, .int y1), (3, .int y3)]) hl [0, 1, 2] rfl)
  have F40 : ∀ (k4 : Int32 → Int32 → Int32 → Option (Int32)) (hk4 : ∀ (u1 : Int32) (u2 : Int32) (u3 : Int32), k4 u1 u2 u3 = some r → ∀ ls : Array Slot, lv_has ls 4 [(0, .ref a_z), (1, .int u1), (2, .int u2), (3, .int u3)] → WP p l e rmX9_haveOneList s m av below meth c r 4 ls []), ∀ (y1 : Int32) (y3 : Int32), jX9_haveOneList_40 z_s k4 y1 y3 = some r → ∀ ls : Array Slot, lv_has ls 4 [(0, .ref a_z), (1, .int y1), (3, .int y3)] → WP p l e rmX9_haveOneList s m av below meth c r 40 ls [] := by
    intro k4 hk4
    intro y1 y3 h ls hl
    unfold jX9_haveOneList_40 at h
    refine lv_iconst (v := 1) hx hb dX9_haveOneList_40 (by decide) ?_
    refine lv_goto (tgt := 45) hx hb dX9_haveOneList_41 (by decide) ?_
    exact F45 k4 hk4 y1 y3 1 h ls (lv_sub (l' := [(0, .ref a_z), (1, .int y1), (3, .int y3)]) hl [0, 1, 2] rfl)
  have F4 : ∀ (n : Nat) (y1 : Int32) (y2 : Int32) (y3 : Int32), lX9_haveOneList_4 z_s n y1 y2 y3 = some r → ∀ ls : Array Slot, lv_has ls 4 [(0, .ref a_z), (1, .int y1), (2, .int y2), (3, .int y3)] → WP p l e rmX9_haveOneList s m av below meth c r 4 ls [] := by
    intro n
    induction n with
    | zero => intro y1 y2 y3 h; exact no_some h
    | succ n ih =>
      intro y1 y2 y3 h ls hl
      rw [lX9_haveOneList_4_s] at h
      refine lv_iload_n hx hb dX9_haveOneList_4 rfl (lv_at hl 3 rfl) ?_
      refine lv_aload_n hx hb dX9_haveOneList_5 rfl (lv_at hl 0 rfl) ?_
      refine va_get (D := D) (ci := 9) (v := .ref a_z_s) (C := RX9) (T := TX9) (N := 13) hx hb hts hinX9 hown hKK.1 hP 0 rfl rfl 0 (by decide) lk7 (fun _ h9 => h9) rfl dX9_haveOneList_6 ?_
      refine lv_bipush (v := 25) hx hb dX9_haveOneList_9 (by decide) ?_
      obtain ⟨v1, iv1, ev1, h⟩ := rd_some h
      refine kAld hx hb hKK hP 1 rfl iv1 ev1 dX9_haveOneList_11 ?_
      refine lv_icmp_ge (tgt := 52) hx hb dX9_haveOneList_12 (by decide) (fun c2 => ?_) (fun c2 => ?_)
      · have h := ifp h c2
        refine lv_iload_n hx hb dX9_haveOneList_52 rfl (lv_at hl 2 rfl) ?_
        exact kRetZ hx hb hr hlk (rb_some h).2 (rb_some h).1 dX9_haveOneList_53
      · have h := ifn h c2
        refine lv_iload_n hx hb dX9_haveOneList_15 rfl (lv_at hl 2 rfl) ?_
        refine lv_if_eq (tgt := 44) hx hb dX9_haveOneList_16 (by decide) (fun c3 => ?_) (fun c3 => ?_)
        · have h := ifp h c3
          exact F44 (fun u1 u2 u3 => lX9_haveOneList_4 z_s n u1 u2 u3) (fun u1 u2 u3 h ls hl => ih u1 u2 u3 h ls hl) y1 y3 h ls (lv_sub (l' := [(0, .ref a_z), (1, .int y1), (3, .int y3)]) hl [0, 1, 3] rfl)
        · have h := ifn h c3
          refine lv_iload_n hx hb dX9_haveOneList_19 rfl (lv_at hl 1 rfl) ?_
          refine lv_iload_n hx hb dX9_haveOneList_20 rfl (lv_at hl 3 rfl) ?_
          obtain ⟨v4, ev4, h⟩ := bn_some h
          refine kS (As := [.int y1, .int y3]) (rest := []) SS hKK (qX9_has l D cI cM y1 y3 v4 ev4) cw48 va_P_nil rfl hl.1 rfl (Nat.le_of_ble_eq_true rfl) dX9_haveOneList_21 ⟨Nat.zero_le _, Nat.zero_le _⟩ ?_
          refine lv_if_eq (tgt := 40) hx hb dX9_haveOneList_24 (by decide) (fun c5 => ?_) (fun c5 => ?_)
          · have h := ifp h c5
            exact F40 (fun u1 u2 u3 => lX9_haveOneList_4 z_s n u1 u2 u3) (fun u1 u2 u3 h ls hl => ih u1 u2 u3 h ls hl) y1 y3 h ls (lv_sub (l' := [(0, .ref a_z), (1, .int y1), (3, .int y3)]) hl [0, 1, 3] rfl)
          · have h := ifn h c5
            refine lv_aload_n hx hb dX9_haveOneList_27 rfl (lv_at hl 0 rfl) ?_
            refine lv_iload_n hx hb dX9_haveOneList_28 rfl (lv_at hl 3 rfl) ?_
            refine lv_aload_n hx hb dX9_haveOneList_29 rfl (lv_at hl 0 rfl) ?_
            refine lv_iload_n hx hb dX9_haveOneList_30 rfl (lv_at hl 1 rfl) ?_
            obtain ⟨v6, ev6, h⟩ := bn_some h
            have hs7 : va_P D vwCl (W_z cI cM a_z a_z_s a_z_past a_z_keeps a_z_entryKey a_z_entryDefault a_z_held a_z_values a_z_kinds a_z_news z_s z_past z_pasts z_changed z_entries z_keeps z_entryKey z_entryDefault z_counter z_held z_values z_kinds z_news) _ := hP.sub (ws' := W_z cI cM a_z a_z_s a_z_past a_z_keeps a_z_entryKey a_z_entryDefault a_z_held a_z_values a_z_kinds a_z_news z_s z_past z_pasts z_changed z_entries z_keeps z_entryKey z_entryDefault z_counter z_held z_values z_kinds z_news) [0, 1, 2, 3, 4, 5, 6, 7, 8, 9] rfl
            refine kV (As := [.int y1]) (rest := [.int y3, .ref a_z]) SS hKK (qX9_lowest l D cI cM a_z a_z_s a_z_past a_z_keeps a_z_entryKey a_z_entryDefault a_z_held a_z_values a_z_kinds a_z_news z_s z_past z_pasts z_changed z_entries z_keeps z_entryKey z_entryDefault z_counter z_held z_values z_kinds z_news y1 v6 ev6) cw92 hs7 0 9 rfl rfl rfl hl.1 rfl (Nat.le_of_ble_eq_true rfl) dX9_haveOneList_31 ⟨Nat.zero_le _, Nat.zero_le _⟩ ?_
            obtain ⟨v8, ev8, h⟩ := bn_some h
            refine kV (As := [.int y3, .int v6]) (rest := []) SS hKK (qX9_haveSameList l D cI cM a_z a_z_s a_z_past a_z_keeps a_z_entryKey a_z_entryDefault a_z_held a_z_values a_z_kinds a_z_news z_s z_past z_pasts z_changed z_entries z_keeps z_entryKey z_entryDefault z_counter z_held z_values z_kinds z_news y3 v6 v8 ev8) cw73 hs7 0 9 rfl rfl rfl hl.1 rfl (Nat.le_of_ble_eq_true rfl) dX9_haveOneList_34 ⟨Nat.zero_le _, Nat.zero_le _⟩ ?_
            refine lv_if_eq (tgt := 44) hx hb dX9_haveOneList_37 (by decide) (fun c9 => ?_) (fun c9 => ?_)
            · have h := ifp h c9
              exact F44 (fun u1 u2 u3 => lX9_haveOneList_4 z_s n u1 u2 u3) (fun u1 u2 u3 h ls hl => ih u1 u2 u3 h ls hl) y1 y3 h ls (lv_sub (l' := [(0, .ref a_z), (1, .int y1), (3, .int y3)]) hl [0, 1, 3] rfl)
            · have h := ifn h c9
              exact F40 (fun u1 u2 u3 => lX9_haveOneList_4 z_s n u1 u2 u3) (fun u1 u2 u3 h ls hl => ih u1 u2 u3 h ls hl) y1 y3 h ls (lv_sub (l' := [(0, .ref a_z), (1, .int y1), (3, .int y3)]) hl [0, 1, 3] rfl)
  unfold fX9_haveOneList at h
  refine lv_iconst (v := 1) hx hb dX9_haveOneList_0 (by decide) ?_
  refine lv_istore_n (lv' := [(2, .int 1), (0, .ref a_z), (1, .int x1)]) hx hb dX9_haveOneList_1 rfl hl (by decide) rfl (fun ls hl => ?_)
  refine lv_iconst (v := 0) hx hb dX9_haveOneList_2 (by decide) ?_
  refine lv_istore_n (lv' := [(3, .int 0), (2, .int 1), (0, .ref a_z), (1, .int x1)]) hx hb dX9_haveOneList_3 rfl hl (by decide) rfl (fun ls hl => ?_)
  exact F4 5000 x1 1 0 h ls (lv_sub (l' := [(0, .ref a_z), (1, .int x1), (2, .int 1), (3, .int 0)]) hl [2, 3, 1, 0] rfl)
set_option maxHeartbeats 8000000 in
set_option maxRecDepth 100000 in
theorem qX9_declares (l : Launch) (D : va_G) (cI cM : ClassId) (a_z a_z_s a_z_past a_z_keeps a_z_entryKey a_z_entryDefault a_z_held a_z_values a_z_kinds a_z_news : Nat) (z_s : Nat → Int32) (z_past : Nat → Int32) (z_pasts : Int32) (z_changed : Int32) (z_entries : Int32) (z_keeps : Nat → Int32) (z_entryKey : Nat → Int32) (z_entryDefault : Nat → Int32) (z_counter : Int32) (z_held : Nat → Int32) (z_values : Nat → Int32) (z_kinds : Nat → Int32) (z_news : Nat → Int32) (x1 : Int32) (x2 : Int32) (x3 : Int32) (r : Int32) (h : fX9_declares z_s x1 x2 x3 = some r) : PM l yX9_declares wsX9_declares rmX9_declares D cI cM [.ref a_z, .int x1, .int x2, .int x3] (W_z cI cM a_z a_z_s a_z_past a_z_keeps a_z_entryKey a_z_entryDefault a_z_held a_z_values a_z_kinds a_z_news z_s z_past z_pasts z_changed z_entries z_keeps z_entryKey z_entryDefault z_counter z_held z_values z_kinds z_news) r := by
  refine PM.of (cc := cX9_declares) (maxL := 6) (ret := (some .boolean)) (by decide) rfl (Nat.le_of_ble_eq_true rfl) ?_
  intro p e s m below meth c ls hx hb hr hml hown hts hlk hP hKK hl
  have hown : s.vm.findClass RX9 = some m.cls := hown
  have hl : lv_has ls 6 [(0, .ref a_z), (1, .int x1), (2, .int x2), (3, .int x3)] := hl
  generalize hav : ([.ref a_z, .int x1, .int x2, .int x3] : List Value) = av at hts ⊢
  have SS : CallFix p m c cX9_declares 6 s av.toArray wsX9_declares RX9 := ⟨hx, hb, hml, hown, hts⟩
  have hinX9 : ∀ w ∈ u_ws RX9 TX9 13, w ∈ wsX9_declares := by decide +kernel
  have lk7 := hts (.fieldLink RX9 7 "SignatureChangerModel" "s" "[I") (List.mem_of_getElem? (i := 1) rfl)
  have cw63 : CallW rmX9_declares s av.toArray RX9 RX9 63 yX9_of cX9_of 3 (some .int) wsX9_of rmX9_of 0 0 2 := cwV 2 hts gX9_declares_X9_of rfl rfl rfl (by decide +kernel) ⟨Nat.le_of_ble_eq_true rfl, Nat.le_of_ble_eq_true rfl⟩
  have cw67 : CallW rmX9_declares s av.toArray RX9 RX9 67 yX9_isNamed cX9_isNamed 4 (some .boolean) wsX9_isNamed rmX9_isNamed 0 0 3 := cwV 3 hts gX9_declares_X9_isNamed rfl rfl rfl (by decide +kernel) ⟨Nat.le_of_ble_eq_true rfl, Nat.le_of_ble_eq_true rfl⟩
  have F50 : ∀ (k6 : Int32 → Int32 → Int32 → Int32 → Int32 → Option (Int32)) (hk6 : ∀ (u1 : Int32) (u2 : Int32) (u3 : Int32) (u4 : Int32) (u5 : Int32), k6 u1 u2 u3 u4 u5 = some r → ∀ ls : Array Slot, lv_has ls 6 [(0, .ref a_z), (1, .int u1), (2, .int u2), (3, .int u3), (4, .int u4), (5, .int u5)] → WP p l e rmX9_declares s m av below meth c r 6 ls []), ∀ (y1 : Int32) (y2 : Int32) (y3 : Int32) (y5 : Int32) (s0 : Int32), jX9_declares_50 z_s k6 y1 y2 y3 y5 s0 = some r → ∀ ls : Array Slot, lv_has ls 6 [(0, .ref a_z), (1, .int y1), (2, .int y2), (3, .int y3), (5, .int y5)] → WP p l e rmX9_declares s m av below meth c r 50 ls [.int s0] := by
    intro k6 hk6
    intro y1 y2 y3 y5 s0 h ls hl
    unfold jX9_declares_50 at h
    refine lv_istore (lv' := [(4, .int s0), (0, .ref a_z), (1, .int y1), (2, .int y2), (3, .int y3), (5, .int y5)]) hx hb dX9_declares_50 hl (by decide) rfl (fun ls hl => ?_)
    refine lv_iinc (v := y5 + 1) (lv' := [(5, .int (y5 + 1)), (4, .int s0), (0, .ref a_z), (1, .int y1), (2, .int y2), (3, .int y3)]) hx hb dX9_declares_52 hl (k := 5) rfl rfl (by decide) rfl (fun ls hl => ?_)
    refine lv_goto (tgt := 6) hx hb dX9_declares_55 (by decide) ?_
    exact hk6 y1 y2 y3 s0 (y5 + 1) h ls (lv_sub (l' := [(0, .ref a_z), (1, .int y1), (2, .int y2), (3, .int y3), (4, .int s0), (5, .int (y5 + 1))]) hl [2, 3, 4, 5, 1, 0] rfl)
  have F45 : ∀ (k6 : Int32 → Int32 → Int32 → Int32 → Int32 → Option (Int32)) (hk6 : ∀ (u1 : Int32) (u2 : Int32) (u3 : Int32) (u4 : Int32) (u5 : Int32), k6 u1 u2 u3 u4 u5 = some r → ∀ ls : Array Slot, lv_has ls 6 [(0, .ref a_z), (1, .int u1), (2, .int u2), (3, .int u3), (4, .int u4), (5, .int u5)] → WP p l e rmX9_declares s m av below meth c r 6 ls []), ∀ (y1 : Int32) (y2 : Int32) (y3 : Int32) (y5 : Int32), jX9_declares_45 z_s k6 y1 y2 y3 y5 = some r → ∀ ls : Array Slot, lv_has ls 6 [(0, .ref a_z), (1, .int y1), (2, .int y2), (3, .int y3), (5, .int y5)] → WP p l e rmX9_declares s m av below meth c r 45 ls [] := by
    intro k6 hk6
    intro y1 y2 y3 y5 h ls hl
    unfold jX9_declares_45 at h
    refine lv_iconst (v := 1) hx hb dX9_declares_45 (by decide) ?_
    refine lv_goto (tgt := 50) hx hb dX9_declares_46 (by decide) ?_
    exact F50 k6 hk6 y1 y2 y3 y5 1 h ls (lv_sub (l' := [(0, .ref a_z), (1, .int y1), (2, .int y2), (3, .int y3), (5, .int y5)]) hl [0, 1, 2, 3, 4] rfl)
  have F49 : ∀ (k6 : Int32 → Int32 → Int32 → Int32 → Int32 → Option (Int32)) (hk6 : ∀ (u1 : Int32) (u2 : Int32) (u3 : Int32) (u4 : Int32) (u5 : Int32), k6 u1 u2 u3 u4 u5 = some r → ∀ ls : Array Slot, lv_has ls 6 [(0, .ref a_z), (1, .int u1), (2, .int u2), (3, .int u3), (4, .int u4), (5, .int u5)] → WP p l e rmX9_declares s m av below meth c r 6 ls []), ∀ (y1 : Int32) (y2 : Int32) (y3 : Int32) (y5 : Int32), jX9_declares_49 z_s k6 y1 y2 y3 y5 = some r → ∀ ls : Array Slot, lv_has ls 6 [(0, .ref a_z), (1, .int y1), (2, .int y2), (3, .int y3), (5, .int y5)] → WP p l e rmX9_declares s m av below meth c r 49 ls [] := by
    intro k6 hk6
    intro y1 y2 y3 y5 h ls hl
    unfold jX9_declares_49 at h
    refine lv_iconst (v := 0) hx hb dX9_declares_49 (by decide) ?_
    exact F50 k6 hk6 y1 y2 y3 y5 0 h ls (lv_sub (l' := [(0, .ref a_z), (1, .int y1), (2, .int y2), (3, .int y3), (5, .int y5)]) hl [0, 1, 2, 3, 4] rfl)
  have F6 : ∀ (n : Nat) (y1 : Int32) (y2 : Int32) (y3 : Int32) (y4 : Int32) (y5 : Int32), lX9_declares_6 z_s n y1 y2 y3 y4 y5 = some r → ∀ ls : Array Slot, lv_has ls 6 [(0, .ref a_z), (1, .int y1), (2, .int y2), (3, .int y3), (4, .int y4), (5, .int y5)] → WP p l e rmX9_declares s m av below meth c r 6 ls [] := by
    intro n
    induction n with
    | zero => intro y1 y2 y3 y4 y5 h; exact no_some h
    | succ n ih =>
      intro y1 y2 y3 y4 y5 h ls hl
      rw [lX9_declares_6_s] at h
      refine lv_iload hx hb dX9_declares_6 (lv_at hl 5 rfl) ?_
      refine lv_aload_n hx hb dX9_declares_8 rfl (lv_at hl 0 rfl) ?_
      refine va_get (D := D) (ci := 9) (v := .ref a_z_s) (C := RX9) (T := TX9) (N := 13) hx hb hts hinX9 hown hKK.1 hP 0 rfl rfl 0 (by decide) lk7 (fun _ h9 => h9) rfl dX9_declares_9 ?_
      refine lv_bipush (v := 25) hx hb dX9_declares_12 (by decide) ?_
      obtain ⟨v1, iv1, ev1, h⟩ := rd_some h
      refine kAld hx hb hKK hP 1 rfl iv1 ev1 dX9_declares_14 ?_
      refine lv_icmp_ge (tgt := 58) hx hb dX9_declares_15 (by decide) (fun c2 => ?_) (fun c2 => ?_)
      · have h := ifp h c2
        refine lv_iload hx hb dX9_declares_58 (lv_at hl 4 rfl) ?_
        exact kRetZ hx hb hr hlk (rb_some h).2 (rb_some h).1 dX9_declares_60
      · have h := ifn h c2
        refine lv_iload hx hb dX9_declares_18 (lv_at hl 4 rfl) ?_
        refine lv_if_ne (tgt := 45) hx hb dX9_declares_20 (by decide) (fun c3 => ?_) (fun c3 => ?_)
        · have h := ifn h c3
          exact F45 (fun u1 u2 u3 u4 u5 => lX9_declares_6 z_s n u1 u2 u3 u4 u5) (fun u1 u2 u3 u4 u5 h ls hl => ih u1 u2 u3 u4 u5 h ls hl) y1 y2 y3 y5 h ls (lv_sub (l' := [(0, .ref a_z), (1, .int y1), (2, .int y2), (3, .int y3), (5, .int y5)]) hl [0, 1, 2, 3, 5] rfl)
        · have h := ifp h c3
          refine lv_aload_n hx hb dX9_declares_23 rfl (lv_at hl 0 rfl) ?_
          refine lv_iload hx hb dX9_declares_24 (lv_at hl 5 rfl) ?_
          refine lv_iconst (v := 0) hx hb dX9_declares_26 (by decide) ?_
          obtain ⟨v4, ev4, h⟩ := bn_some h
          have hs5 : va_P D vwCl (W_z cI cM a_z a_z_s a_z_past a_z_keeps a_z_entryKey a_z_entryDefault a_z_held a_z_values a_z_kinds a_z_news z_s z_past z_pasts z_changed z_entries z_keeps z_entryKey z_entryDefault z_counter z_held z_values z_kinds z_news) _ := hP.sub (ws' := W_z cI cM a_z a_z_s a_z_past a_z_keeps a_z_entryKey a_z_entryDefault a_z_held a_z_values a_z_kinds a_z_news z_s z_past z_pasts z_changed z_entries z_keeps z_entryKey z_entryDefault z_counter z_held z_values z_kinds z_news) [0, 1, 2, 3, 4, 5, 6, 7, 8, 9] rfl
          refine kV (As := [.int y5, .int 0]) (rest := []) SS hKK (qX9_of l D cI cM a_z a_z_s a_z_past a_z_keeps a_z_entryKey a_z_entryDefault a_z_held a_z_values a_z_kinds a_z_news z_s z_past z_pasts z_changed z_entries z_keeps z_entryKey z_entryDefault z_counter z_held z_values z_kinds z_news y5 0 v4 ev4) cw63 hs5 0 9 rfl rfl rfl hl.1 rfl (Nat.le_of_ble_eq_true rfl) dX9_declares_27 ⟨Nat.zero_le _, Nat.zero_le _⟩ ?_
          refine lv_iload_n hx hb dX9_declares_30 rfl (lv_at hl 1 rfl) ?_
          refine lv_icmp_ne (tgt := 49) hx hb dX9_declares_31 (by decide) (fun c6 => ?_) (fun c6 => ?_)
          · have h := ifn h c6
            exact F49 (fun u1 u2 u3 u4 u5 => lX9_declares_6 z_s n u1 u2 u3 u4 u5) (fun u1 u2 u3 u4 u5 h ls hl => ih u1 u2 u3 u4 u5 h ls hl) y1 y2 y3 y5 h ls (lv_sub (l' := [(0, .ref a_z), (1, .int y1), (2, .int y2), (3, .int y3), (5, .int y5)]) hl [0, 1, 2, 3, 5] rfl)
          · have h := ifp h c6
            refine lv_aload_n hx hb dX9_declares_34 rfl (lv_at hl 0 rfl) ?_
            refine lv_iload hx hb dX9_declares_35 (lv_at hl 5 rfl) ?_
            refine lv_iload_n hx hb dX9_declares_37 rfl (lv_at hl 2 rfl) ?_
            refine lv_iload_n hx hb dX9_declares_38 rfl (lv_at hl 3 rfl) ?_
            obtain ⟨v7, ev7, h⟩ := bn_some h
            refine kV (As := [.int y5, .int y2, .int y3]) (rest := []) SS hKK (qX9_isNamed l D cI cM a_z a_z_s a_z_past a_z_keeps a_z_entryKey a_z_entryDefault a_z_held a_z_values a_z_kinds a_z_news z_s z_past z_pasts z_changed z_entries z_keeps z_entryKey z_entryDefault z_counter z_held z_values z_kinds z_news y5 y2 y3 v7 ev7) cw67 hs5 0 9 rfl rfl rfl hl.1 rfl (Nat.le_of_ble_eq_true rfl) dX9_declares_39 ⟨Nat.zero_le _, Nat.zero_le _⟩ ?_
            refine lv_if_eq (tgt := 49) hx hb dX9_declares_42 (by decide) (fun c8 => ?_) (fun c8 => ?_)
            · have h := ifp h c8
              exact F49 (fun u1 u2 u3 u4 u5 => lX9_declares_6 z_s n u1 u2 u3 u4 u5) (fun u1 u2 u3 u4 u5 h ls hl => ih u1 u2 u3 u4 u5 h ls hl) y1 y2 y3 y5 h ls (lv_sub (l' := [(0, .ref a_z), (1, .int y1), (2, .int y2), (3, .int y3), (5, .int y5)]) hl [0, 1, 2, 3, 5] rfl)
            · have h := ifn h c8
              exact F45 (fun u1 u2 u3 u4 u5 => lX9_declares_6 z_s n u1 u2 u3 u4 u5) (fun u1 u2 u3 u4 u5 h ls hl => ih u1 u2 u3 u4 u5 h ls hl) y1 y2 y3 y5 h ls (lv_sub (l' := [(0, .ref a_z), (1, .int y1), (2, .int y2), (3, .int y3), (5, .int y5)]) hl [0, 1, 2, 3, 5] rfl)
  unfold fX9_declares at h
  refine lv_iconst (v := 0) hx hb dX9_declares_0 (by decide) ?_
  refine lv_istore (lv' := [(4, .int 0), (0, .ref a_z), (1, .int x1), (2, .int x2), (3, .int x3)]) hx hb dX9_declares_1 hl (by decide) rfl (fun ls hl => ?_)
  refine lv_iconst (v := 0) hx hb dX9_declares_3 (by decide) ?_
  refine lv_istore (lv' := [(5, .int 0), (4, .int 0), (0, .ref a_z), (1, .int x1), (2, .int x2), (3, .int x3)]) hx hb dX9_declares_4 hl (by decide) rfl (fun ls hl => ?_)
  exact F6 5000 x1 x2 x3 0 0 h ls (lv_sub (l' := [(0, .ref a_z), (1, .int x1), (2, .int x2), (3, .int x3), (4, .int 0), (5, .int 0)]) hl [2, 3, 4, 5, 1, 0] rfl)
set_option maxHeartbeats 8000000 in
set_option maxRecDepth 100000 in
theorem qX9_declareMethod (l : Launch) (D : va_G) (cI cM : ClassId) (a_z a_z_s a_z_past a_z_keeps a_z_entryKey a_z_entryDefault a_z_held a_z_values a_z_kinds a_z_news : Nat) (z_s : Nat → Int32) (z_past : Nat → Int32) (z_pasts : Int32) (z_changed : Int32) (z_entries : Int32) (z_keeps : Nat → Int32) (z_entryKey : Nat → Int32) (z_entryDefault : Nat → Int32) (z_counter : Int32) (z_held : Nat → Int32) (z_values : Nat → Int32) (z_kinds : Nat → Int32) (z_news : Nat → Int32) (x1 : Int32) (x2 : Int32) (x3 : Int32) (r : Int32) (r_z_s : Nat → Int32) (r_z_past : Nat → Int32) (r_z_pasts : Int32) (r_z_changed : Int32) (h : fX9_declareMethod z_s z_past z_pasts z_changed x1 x2 x3 = some (r, r_z_s, r_z_past, r_z_pasts, r_z_changed)) : IM l yX9_declareMethod wsX9_declareMethod rmX9_declareMethod D cI cM [.ref a_z, .int x1, .int x2, .int x3] (W_z cI cM a_z a_z_s a_z_past a_z_keeps a_z_entryKey a_z_entryDefault a_z_held a_z_values a_z_kinds a_z_news z_s z_past z_pasts z_changed z_entries z_keeps z_entryKey z_entryDefault z_counter z_held z_values z_kinds z_news) (W_z cI cM a_z a_z_s a_z_past a_z_keeps a_z_entryKey a_z_entryDefault a_z_held a_z_values a_z_kinds a_z_news r_z_s r_z_past r_z_pasts r_z_changed z_entries z_keeps z_entryKey z_entryDefault z_counter z_held z_values z_kinds z_news) (some (.int r)) := by
  refine IM.of (cc := cX9_declareMethod) (maxL := 8) (ret := (some .int)) (by decide) rfl (Nat.le_of_ble_eq_true rfl) ?_
  intro p e s m below meth c ls hx hb hr hml hown hts hlk hKK hP hD hS hl
  have hown : s.vm.findClass RX9 = some m.cls := hown
  have hl : lv_has ls 8 [(0, .ref a_z), (1, .int x1), (2, .int x2), (3, .int x3)] := hl
  generalize hav : ([.ref a_z, .int x1, .int x2, .int x3] : List Value) = av at hts ⊢
  generalize hw1 : W_z cI cM a_z a_z_s a_z_past a_z_keeps a_z_entryKey a_z_entryDefault a_z_held a_z_values a_z_kinds a_z_news r_z_s r_z_past r_z_pasts r_z_changed z_entries z_keeps z_entryKey z_entryDefault z_counter z_held z_values z_kinds z_news = w1
  generalize hw0 : W_z cI cM a_z a_z_s a_z_past a_z_keeps a_z_entryKey a_z_entryDefault a_z_held a_z_values a_z_kinds a_z_news z_s z_past z_pasts z_changed z_entries z_keeps z_entryKey z_entryDefault z_counter z_held z_values z_kinds z_news = w0 at hD hS ⊢
  have hP : va_P D vwCl (W_z cI cM a_z a_z_s a_z_past a_z_keeps a_z_entryKey a_z_entryDefault a_z_held a_z_values a_z_kinds a_z_news z_s z_past z_pasts z_changed z_entries z_keeps z_entryKey z_entryDefault z_counter z_held z_values z_kinds z_news) s.heap := hP
  have hD : va_D (fun q => q ∈ w0.map (·.1)) (W_z cI cM a_z a_z_s a_z_past a_z_keeps a_z_entryKey a_z_entryDefault a_z_held a_z_values a_z_kinds a_z_news z_s z_past z_pasts z_changed z_entries z_keeps z_entryKey z_entryDefault z_counter z_held z_values z_kinds z_news) := by rw [hw0]; exact hD
  have SS : CallFix p m c cX9_declareMethod 8 s av.toArray wsX9_declareMethod RX9 := ⟨hx, hb, hml, hown, hts⟩
  have hinX9 : ∀ w ∈ u_ws RX9 TX9 13, w ∈ wsX9_declareMethod := by decide +kernel
  have lk7 := hts (.fieldLink RX9 7 "SignatureChangerModel" "s" "[I") (List.mem_of_getElem? (i := 1) rfl)
  have cw44 : CallB rmX9_declareMethod s av.toArray RX9 44 yX9_in cX9_in 3 (some .boolean) wsX9_in rmX9_in 0 0 3 ∧ (Cond.static yX9_in).before av.toArray s = true := va_cwS 3 hts gX9_declareMethod_X9_in rfl rfl rfl (by decide +kernel) ⟨Nat.le_of_ble_eq_true rfl, Nat.le_of_ble_eq_true rfl⟩
  have cw63 : CallW rmX9_declareMethod s av.toArray RX9 RX9 63 yX9_of cX9_of 3 (some .int) wsX9_of rmX9_of 0 0 2 := cwV 2 hts gX9_declareMethod_X9_of rfl rfl rfl (by decide +kernel) ⟨Nat.le_of_ble_eq_true rfl, Nat.le_of_ble_eq_true rfl⟩
  have cw80 : CallW rmX9_declareMethod s av.toArray RX9 RX9 80 yX9_isType cX9_isType 2 (some .boolean) wsX9_isType rmX9_isType 0 0 1 := cwV 1 hts gX9_declareMethod_X9_isType rfl rfl rfl (by decide +kernel) ⟨Nat.le_of_ble_eq_true rfl, Nat.le_of_ble_eq_true rfl⟩
  have cw86 : CallW rmX9_declareMethod s av.toArray RX9 RX9 86 yX9_edit cX9_edit 2 none wsX9_edit rmX9_edit 0 0 0 := cwV 0 hts gX9_declareMethod_X9_edit rfl rfl rfl (by decide +kernel) ⟨Nat.le_of_ble_eq_true rfl, Nat.le_of_ble_eq_true rfl⟩
  have cw92 : CallW rmX9_declareMethod s av.toArray RX9 RX9 92 yX9_lowest cX9_lowest 3 (some .int) wsX9_lowest rmX9_lowest 0 0 1 := cwV 1 hts gX9_declareMethod_X9_lowest rfl rfl rfl (by decide +kernel) ⟨Nat.le_of_ble_eq_true rfl, Nat.le_of_ble_eq_true rfl⟩
  have cw95 : CallW rmX9_declareMethod s av.toArray RX9 RX9 95 yX9_relatives cX9_relatives 6 (some .int) wsX9_relatives rmX9_relatives 0 0 3 := cwV 3 hts gX9_declareMethod_X9_relatives rfl rfl rfl (by decide +kernel) ⟨Nat.le_of_ble_eq_true rfl, Nat.le_of_ble_eq_true rfl⟩
  have cw99 : CallW rmX9_declareMethod s av.toArray RX9 RX9 99 yX9_declares cX9_declares 6 (some .boolean) wsX9_declares rmX9_declares 0 0 3 := cwV 3 hts gX9_declareMethod_X9_declares rfl rfl rfl (by decide +kernel) ⟨Nat.le_of_ble_eq_true rfl, Nat.le_of_ble_eq_true rfl⟩
  have cw102 : CallW rmX9_declareMethod s av.toArray RX9 RX9 102 yX9_haveOneList cX9_haveOneList 4 (some .boolean) wsX9_haveOneList rmX9_haveOneList 0 0 1 := cwV 1 hts gX9_declareMethod_X9_haveOneList rfl rfl rfl (by decide +kernel) ⟨Nat.le_of_ble_eq_true rfl, Nat.le_of_ble_eq_true rfl⟩
  have F206 : ∀ (k128 : (Nat → Int32) → (Nat → Int32) → (Int32) → (Int32) → Int32 → Int32 → Int32 → Int32 → Option (Int32 × (Nat → Int32) × (Nat → Int32) × Int32 × Int32)) (hk128 : ∀ (H : Heap) (locs : List Loc) (w_z_s : Nat → Int32) (w_z_past : Nat → Int32) (w_z_pasts : Int32) (w_z_changed : Int32) (u4 : Int32) (u5 : Int32) (u6 : Int32) (u7 : Int32), k128 w_z_s w_z_past w_z_pasts w_z_changed u4 u5 u6 u7 = some (r, r_z_s, r_z_past, r_z_pasts, r_z_changed) → va_P D vwCl (W_z cI cM a_z a_z_s a_z_past a_z_keeps a_z_entryKey a_z_entryDefault a_z_held a_z_values a_z_kinds a_z_news w_z_s w_z_past w_z_pasts w_z_changed z_entries z_keeps z_entryKey z_entryDefault z_counter z_held z_values z_kinds z_news) H → va_D (fun q => q ∈ w0.map (·.1)) (W_z cI cM a_z a_z_s a_z_past a_z_keeps a_z_entryKey a_z_entryDefault a_z_held a_z_values a_z_kinds a_z_news w_z_s w_z_past w_z_pasts w_z_changed z_entries z_keeps z_entryKey z_entryDefault z_counter z_held z_values z_kinds z_news) → va_S (fun q => q ∈ w0.map (·.1)) s.heap H locs → ∀ ls : Array Slot, lv_has ls 8 [(0, .ref a_z), (4, .int u4), (5, .int u5), (6, .int u6), (7, .int u7)] → WI p l e rmX9_declareMethod s m av below meth c D w0 w1 (some (.int r)) H locs 128 ls []), ∀ (H : Heap) (locs : List Loc) (z_s : Nat → Int32) (z_past : Nat → Int32) (z_pasts : Int32) (z_changed : Int32) (y4 : Int32) (y5 : Int32) (y6 : Int32) (y7 : Int32) (s1 : Int32) (s2 : Int32), jX9_declareMethod_206  k128 z_s z_past z_pasts z_changed y4 y5 y6 y7 s1 s2 = some (r, r_z_s, r_z_past, r_z_pasts, r_z_changed) → va_P D vwCl (W_z cI cM a_z a_z_s a_z_past a_z_keeps a_z_entryKey a_z_entryDefault a_z_held a_z_values a_z_kinds a_z_news z_s z_past z_pasts z_changed z_entries z_keeps z_entryKey z_entryDefault z_counter z_held z_values z_kinds z_news) H → va_D (fun q => q ∈ (w0).map (·.1)) (W_z cI cM a_z a_z_s a_z_past a_z_keeps a_z_entryKey a_z_entryDefault a_z_held a_z_values a_z_kinds a_z_news z_s z_past z_pasts z_changed z_entries z_keeps z_entryKey z_entryDefault z_counter z_held z_values z_kinds z_news) → va_S (fun q => q ∈ (w0).map (·.1)) s.heap H locs → ∀ ls : Array Slot, lv_has ls 8 [(0, .ref a_z), (4, .int y4), (5, .int y5), (6, .int y6), (7, .int y7)] → WI p l e rmX9_declareMethod s m av below meth c D w0 w1 (some (.int r)) H locs 206 ls [.int s2, .int s1, .ref a_z_s] := by
    intro k128 hk128
    intro H locs z_s z_past z_pasts z_changed y4 y5 y6 y7 s1 s2 h hP hD hS ls hl
    unfold jX9_declareMethod_206 at h
    obtain ⟨g1, ig1, eg1, h⟩ := wr_some h
    refine kAst hx hb hKK hP hD hS 1 rfl ig1 eg1 dX9_declareMethod_206 (fun H locs hP hD hS => ?_)
    have hP : va_P D vwCl (W_z cI cM a_z a_z_s a_z_past a_z_keeps a_z_entryKey a_z_entryDefault a_z_held a_z_values a_z_kinds a_z_news g1 z_past z_pasts z_changed z_entries z_keeps z_entryKey z_entryDefault z_counter z_held z_values z_kinds z_news) H := hP
    have hD : va_D _ (W_z cI cM a_z a_z_s a_z_past a_z_keeps a_z_entryKey a_z_entryDefault a_z_held a_z_values a_z_kinds a_z_news g1 z_past z_pasts z_changed z_entries z_keeps z_entryKey z_entryDefault z_counter z_held z_values z_kinds z_news) := hD
    refine lv_iinc (v := y7 + 1) (lv' := [(7, .int (y7 + 1)), (0, .ref a_z), (4, .int y4), (5, .int y5), (6, .int y6)]) hx hb dX9_declareMethod_207 hl (k := 4) rfl rfl (by decide) rfl (fun ls hl => ?_)
    refine lv_goto (tgt := 128) hx hb dX9_declareMethod_210 (by decide) ?_
    exact hk128 H locs g1 z_past z_pasts z_changed y4 y5 y6 (y7 + 1) h hP hD hS ls (lv_sub (l' := [(0, .ref a_z), (4, .int y4), (5, .int y5), (6, .int y6), (7, .int (y7 + 1))]) hl [1, 2, 3, 4, 0] rfl)
  have F169 : ∀ (k128 : (Nat → Int32) → (Nat → Int32) → (Int32) → (Int32) → Int32 → Int32 → Int32 → Int32 → Option (Int32 × (Nat → Int32) × (Nat → Int32) × Int32 × Int32)) (hk128 : ∀ (H : Heap) (locs : List Loc) (w_z_s : Nat → Int32) (w_z_past : Nat → Int32) (w_z_pasts : Int32) (w_z_changed : Int32) (u4 : Int32) (u5 : Int32) (u6 : Int32) (u7 : Int32), k128 w_z_s w_z_past w_z_pasts w_z_changed u4 u5 u6 u7 = some (r, r_z_s, r_z_past, r_z_pasts, r_z_changed) → va_P D vwCl (W_z cI cM a_z a_z_s a_z_past a_z_keeps a_z_entryKey a_z_entryDefault a_z_held a_z_values a_z_kinds a_z_news w_z_s w_z_past w_z_pasts w_z_changed z_entries z_keeps z_entryKey z_entryDefault z_counter z_held z_values z_kinds z_news) H → va_D (fun q => q ∈ w0.map (·.1)) (W_z cI cM a_z a_z_s a_z_past a_z_keeps a_z_entryKey a_z_entryDefault a_z_held a_z_values a_z_kinds a_z_news w_z_s w_z_past w_z_pasts w_z_changed z_entries z_keeps z_entryKey z_entryDefault z_counter z_held z_values z_kinds z_news) → va_S (fun q => q ∈ w0.map (·.1)) s.heap H locs → ∀ ls : Array Slot, lv_has ls 8 [(0, .ref a_z), (4, .int u4), (5, .int u5), (6, .int u6), (7, .int u7)] → WI p l e rmX9_declareMethod s m av below meth c D w0 w1 (some (.int r)) H locs 128 ls []), ∀ (H : Heap) (locs : List Loc) (z_s : Nat → Int32) (z_past : Nat → Int32) (z_pasts : Int32) (z_changed : Int32) (y4 : Int32) (y5 : Int32) (y6 : Int32) (y7 : Int32) (s1 : Int32) (s2 : Int32), jX9_declareMethod_169  k128 z_s z_past z_pasts z_changed y4 y5 y6 y7 s1 s2 = some (r, r_z_s, r_z_past, r_z_pasts, r_z_changed) → va_P D vwCl (W_z cI cM a_z a_z_s a_z_past a_z_keeps a_z_entryKey a_z_entryDefault a_z_held a_z_values a_z_kinds a_z_news z_s z_past z_pasts z_changed z_entries z_keeps z_entryKey z_entryDefault z_counter z_held z_values z_kinds z_news) H → va_D (fun q => q ∈ (w0).map (·.1)) (W_z cI cM a_z a_z_s a_z_past a_z_keeps a_z_entryKey a_z_entryDefault a_z_held a_z_values a_z_kinds a_z_news z_s z_past z_pasts z_changed z_entries z_keeps z_entryKey z_entryDefault z_counter z_held z_values z_kinds z_news) → va_S (fun q => q ∈ (w0).map (·.1)) s.heap H locs → ∀ ls : Array Slot, lv_has ls 8 [(0, .ref a_z), (4, .int y4), (5, .int y5), (6, .int y6), (7, .int y7)] → WI p l e rmX9_declareMethod s m av below meth c D w0 w1 (some (.int r)) H locs 169 ls [.int s2, .int s1, .ref a_z_s] := by
    intro k128 hk128
    intro H locs z_s z_past z_pasts z_changed y4 y5 y6 y7 s1 s2 h hP hD hS ls hl
    unfold jX9_declareMethod_169 at h
    obtain ⟨g1, ig1, eg1, h⟩ := wr_some h
    refine kAst hx hb hKK hP hD hS 1 rfl ig1 eg1 dX9_declareMethod_169 (fun H locs hP hD hS => ?_)
    have hP : va_P D vwCl (W_z cI cM a_z a_z_s a_z_past a_z_keeps a_z_entryKey a_z_entryDefault a_z_held a_z_values a_z_kinds a_z_news g1 z_past z_pasts z_changed z_entries z_keeps z_entryKey z_entryDefault z_counter z_held z_values z_kinds z_news) H := hP
    have hD : va_D _ (W_z cI cM a_z a_z_s a_z_past a_z_keeps a_z_entryKey a_z_entryDefault a_z_held a_z_values a_z_kinds a_z_news g1 z_past z_pasts z_changed z_entries z_keeps z_entryKey z_entryDefault z_counter z_held z_values z_kinds z_news) := hD
    refine lv_aload_n hx hb dX9_declareMethod_170 rfl (lv_at hl 0 rfl) ?_
    refine va_get (D := D) (ci := 9) (v := .ref a_z_s) (C := RX9) (T := TX9) (N := 13) hx hb hts hinX9 hown hKK.1 hP 0 rfl rfl 0 (by decide) lk7 (fun _ h9 => h9) rfl dX9_declareMethod_171 ?_
    refine lv_iload hx hb dX9_declareMethod_174 (lv_at hl 3 rfl) ?_
    refine lv_bipush (v := 8) hx hb dX9_declareMethod_176 (by decide) ?_
    refine lv_iadd hx hb dX9_declareMethod_178 ?_
    refine lv_iload hx hb dX9_declareMethod_179 (lv_at hl 4 rfl) ?_
    refine lv_iadd hx hb dX9_declareMethod_181 ?_
    refine lv_iload hx hb dX9_declareMethod_182 (lv_at hl 1 rfl) ?_
    refine lv_if_ne (tgt := 191) hx hb dX9_declareMethod_184 (by decide) (fun c2 => ?_) (fun c2 => ?_)
    · have h := ifn h c2
      refine lv_aload_n hx hb dX9_declareMethod_191 rfl (lv_at hl 0 rfl) ?_
      refine lv_aload_n hx hb dX9_declareMethod_192 rfl (lv_at hl 0 rfl) ?_
      refine lv_iload hx hb dX9_declareMethod_193 (lv_at hl 1 rfl) ?_
      obtain ⟨v3, ev3, h⟩ := bn_some h
      have hs4 : va_P D vwCl (W_z cI cM a_z a_z_s a_z_past a_z_keeps a_z_entryKey a_z_entryDefault a_z_held a_z_values a_z_kinds a_z_news g1 z_past z_pasts z_changed z_entries z_keeps z_entryKey z_entryDefault z_counter z_held z_values z_kinds z_news) _ := hP.sub (ws' := W_z cI cM a_z a_z_s a_z_past a_z_keeps a_z_entryKey a_z_entryDefault a_z_held a_z_values a_z_kinds a_z_news g1 z_past z_pasts z_changed z_entries z_keeps z_entryKey z_entryDefault z_counter z_held z_values z_kinds z_news) [0, 1, 2, 3, 4, 5, 6, 7, 8, 9] rfl
      refine kV (As := [.int y4]) (rest := [.ref a_z, .int ((y6 + 8) + y7), .ref a_z_s]) SS hKK (qX9_lowest l D cI cM a_z a_z_s a_z_past a_z_keeps a_z_entryKey a_z_entryDefault a_z_held a_z_values a_z_kinds a_z_news g1 z_past z_pasts z_changed z_entries z_keeps z_entryKey z_entryDefault z_counter z_held z_values z_kinds z_news y4 v3 ev3) cw92 hs4 0 9 rfl rfl rfl hl.1 rfl (Nat.le_of_ble_eq_true rfl) dX9_declareMethod_195 ⟨Nat.zero_le _, Nat.zero_le _⟩ ?_
      refine lv_bipush (v := 8) hx hb dX9_declareMethod_198 (by decide) ?_
      refine lv_iload hx hb dX9_declareMethod_200 (lv_at hl 4 rfl) ?_
      refine lv_iadd hx hb dX9_declareMethod_202 ?_
      obtain ⟨v5, ev5, h⟩ := bn_some h
      refine kV (As := [.int v3, .int (8 + y7)]) (rest := [.int ((y6 + 8) + y7), .ref a_z_s]) SS hKK (qX9_of l D cI cM a_z a_z_s a_z_past a_z_keeps a_z_entryKey a_z_entryDefault a_z_held a_z_values a_z_kinds a_z_news g1 z_past z_pasts z_changed z_entries z_keeps z_entryKey z_entryDefault z_counter z_held z_values z_kinds z_news v3 (8 + y7) v5 ev5) cw63 hs4 0 9 rfl rfl rfl hl.1 rfl (Nat.le_of_ble_eq_true rfl) dX9_declareMethod_203 ⟨Nat.zero_le _, Nat.zero_le _⟩ ?_
      exact F206 k128 hk128 H locs g1 z_past z_pasts z_changed y4 y5 y6 y7 ((y6 + 8) + y7) v5 h hP hD hS ls (lv_sub (l' := [(0, .ref a_z), (4, .int y4), (5, .int y5), (6, .int y6), (7, .int y7)]) hl [0, 1, 2, 3, 4] rfl)
    · have h := ifp h c2
      refine lv_iconst (v := 0) hx hb dX9_declareMethod_187 (by decide) ?_
      refine lv_goto (tgt := 206) hx hb dX9_declareMethod_188 (by decide) ?_
      exact F206 k128 hk128 H locs g1 z_past z_pasts z_changed y4 y5 y6 y7 ((y6 + 8) + y7) 0 h hP hD hS ls (lv_sub (l' := [(0, .ref a_z), (4, .int y4), (5, .int y5), (6, .int y6), (7, .int y7)]) hl [0, 1, 2, 3, 4] rfl)
  have F128 : ∀ (n : Nat) (H : Heap) (locs : List Loc) (z_s : Nat → Int32) (z_past : Nat → Int32) (z_pasts : Int32) (z_changed : Int32) (y4 : Int32) (y5 : Int32) (y6 : Int32) (y7 : Int32), lX9_declareMethod_128  n z_s z_past z_pasts z_changed y4 y5 y6 y7 = some (r, r_z_s, r_z_past, r_z_pasts, r_z_changed) → va_P D vwCl (W_z cI cM a_z a_z_s a_z_past a_z_keeps a_z_entryKey a_z_entryDefault a_z_held a_z_values a_z_kinds a_z_news z_s z_past z_pasts z_changed z_entries z_keeps z_entryKey z_entryDefault z_counter z_held z_values z_kinds z_news) H → va_D (fun q => q ∈ (w0).map (·.1)) (W_z cI cM a_z a_z_s a_z_past a_z_keeps a_z_entryKey a_z_entryDefault a_z_held a_z_values a_z_kinds a_z_news z_s z_past z_pasts z_changed z_entries z_keeps z_entryKey z_entryDefault z_counter z_held z_values z_kinds z_news) → va_S (fun q => q ∈ (w0).map (·.1)) s.heap H locs → ∀ ls : Array Slot, lv_has ls 8 [(0, .ref a_z), (4, .int y4), (5, .int y5), (6, .int y6), (7, .int y7)] → WI p l e rmX9_declareMethod s m av below meth c D w0 w1 (some (.int r)) H locs 128 ls [] := by
    intro n
    induction n with
    | zero => intro H locs z_s z_past z_pasts z_changed y4 y5 y6 y7 h; exact no_some h
    | succ n ih =>
      intro H locs z_s z_past z_pasts z_changed y4 y5 y6 y7 h hP hD hS ls hl
      rw [lX9_declareMethod_128_s] at h
      refine lv_iload hx hb dX9_declareMethod_128 (lv_at hl 4 rfl) ?_
      refine lv_iconst (v := 5) hx hb dX9_declareMethod_130 (by decide) ?_
      refine lv_icmp_ge (tgt := 213) hx hb dX9_declareMethod_131 (by decide) (fun c1 => ?_) (fun c1 => ?_)
      · have h := ifp h c1
        refine lv_aload_n hx hb dX9_declareMethod_213 rfl (lv_at hl 0 rfl) ?_
        refine va_get (D := D) (ci := 9) (v := .ref a_z_s) (C := RX9) (T := TX9) (N := 13) hx hb hts hinX9 hown hKK.1 hP 0 rfl rfl 0 (by decide) lk7 (fun _ h9 => h9) rfl dX9_declareMethod_214 ?_
        refine lv_bipush (v := 25) hx hb dX9_declareMethod_217 (by decide) ?_
        refine lv_dup2_11 hx hb dX9_declareMethod_219 rfl rfl ?_
        obtain ⟨v2, iv2, ev2, h⟩ := rd_some h
        refine kAld hx hb hKK hP 1 rfl iv2 ev2 dX9_declareMethod_220 ?_
        refine lv_iconst (v := 1) hx hb dX9_declareMethod_221 (by decide) ?_
        refine lv_iadd hx hb dX9_declareMethod_222 ?_
        obtain ⟨g3, ig3, eg3, h⟩ := wr_some h
        refine kAst hx hb hKK hP hD hS 1 rfl ig3 eg3 dX9_declareMethod_223 (fun H locs hP hD hS => ?_)
        have hP : va_P D vwCl (W_z cI cM a_z a_z_s a_z_past a_z_keeps a_z_entryKey a_z_entryDefault a_z_held a_z_values a_z_kinds a_z_news g3 z_past z_pasts z_changed z_entries z_keeps z_entryKey z_entryDefault z_counter z_held z_values z_kinds z_news) H := hP
        have hD : va_D _ (W_z cI cM a_z a_z_s a_z_past a_z_keeps a_z_entryKey a_z_entryDefault a_z_held a_z_values a_z_kinds a_z_news g3 z_past z_pasts z_changed z_entries z_keeps z_entryKey z_entryDefault z_counter z_held z_values z_kinds z_news) := hD
        refine lv_iload hx hb dX9_declareMethod_224 (lv_at hl 2 rfl) ?_
        simp only [Option.some.injEq, Prod.mk.injEq] at h
        obtain ⟨e0, e1, e2, e3, e4⟩ := h
        exact kRetI hx hb hr hlk e0 (by rw [← hw1, ← e1, ← e2, ← e3, ← e4]; exact hP) hS dX9_declareMethod_226
      · have h := ifn h c1
        refine lv_aload_n hx hb dX9_declareMethod_134 rfl (lv_at hl 0 rfl) ?_
        refine va_get (D := D) (ci := 9) (v := .ref a_z_s) (C := RX9) (T := TX9) (N := 13) hx hb hts hinX9 hown hKK.1 hP 0 rfl rfl 0 (by decide) lk7 (fun _ h9 => h9) rfl dX9_declareMethod_135 ?_
        refine lv_iload hx hb dX9_declareMethod_138 (lv_at hl 3 rfl) ?_
        refine lv_iconst (v := 3) hx hb dX9_declareMethod_140 (by decide) ?_
        refine lv_iadd hx hb dX9_declareMethod_141 ?_
        refine lv_iload hx hb dX9_declareMethod_142 (lv_at hl 4 rfl) ?_
        refine lv_iadd hx hb dX9_declareMethod_144 ?_
        refine lv_iload hx hb dX9_declareMethod_145 (lv_at hl 1 rfl) ?_
        refine lv_if_ne (tgt := 155) hx hb dX9_declareMethod_147 (by decide) (fun c4 => ?_) (fun c4 => ?_)
        · have h := ifn h c4
          refine lv_aload_n hx hb dX9_declareMethod_155 rfl (lv_at hl 0 rfl) ?_
          refine lv_aload_n hx hb dX9_declareMethod_156 rfl (lv_at hl 0 rfl) ?_
          refine lv_iload hx hb dX9_declareMethod_157 (lv_at hl 1 rfl) ?_
          obtain ⟨v5, ev5, h⟩ := bn_some h
          have hs6 : va_P D vwCl (W_z cI cM a_z a_z_s a_z_past a_z_keeps a_z_entryKey a_z_entryDefault a_z_held a_z_values a_z_kinds a_z_news z_s z_past z_pasts z_changed z_entries z_keeps z_entryKey z_entryDefault z_counter z_held z_values z_kinds z_news) _ := hP.sub (ws' := W_z cI cM a_z a_z_s a_z_past a_z_keeps a_z_entryKey a_z_entryDefault a_z_held a_z_values a_z_kinds a_z_news z_s z_past z_pasts z_changed z_entries z_keeps z_entryKey z_entryDefault z_counter z_held z_values z_kinds z_news) [0, 1, 2, 3, 4, 5, 6, 7, 8, 9] rfl
          refine kV (As := [.int y4]) (rest := [.ref a_z, .int ((y6 + 3) + y7), .ref a_z_s]) SS hKK (qX9_lowest l D cI cM a_z a_z_s a_z_past a_z_keeps a_z_entryKey a_z_entryDefault a_z_held a_z_values a_z_kinds a_z_news z_s z_past z_pasts z_changed z_entries z_keeps z_entryKey z_entryDefault z_counter z_held z_values z_kinds z_news y4 v5 ev5) cw92 hs6 0 9 rfl rfl rfl hl.1 rfl (Nat.le_of_ble_eq_true rfl) dX9_declareMethod_159 ⟨Nat.zero_le _, Nat.zero_le _⟩ ?_
          refine lv_iconst (v := 3) hx hb dX9_declareMethod_162 (by decide) ?_
          refine lv_iload hx hb dX9_declareMethod_163 (lv_at hl 4 rfl) ?_
          refine lv_iadd hx hb dX9_declareMethod_165 ?_
          obtain ⟨v7, ev7, h⟩ := bn_some h
          refine kV (As := [.int v5, .int (3 + y7)]) (rest := [.int ((y6 + 3) + y7), .ref a_z_s]) SS hKK (qX9_of l D cI cM a_z a_z_s a_z_past a_z_keeps a_z_entryKey a_z_entryDefault a_z_held a_z_values a_z_kinds a_z_news z_s z_past z_pasts z_changed z_entries z_keeps z_entryKey z_entryDefault z_counter z_held z_values z_kinds z_news v5 (3 + y7) v7 ev7) cw63 hs6 0 9 rfl rfl rfl hl.1 rfl (Nat.le_of_ble_eq_true rfl) dX9_declareMethod_166 ⟨Nat.zero_le _, Nat.zero_le _⟩ ?_
          exact F169 (fun w_z_s w_z_past w_z_pasts w_z_changed u4 u5 u6 u7 => lX9_declareMethod_128  n w_z_s w_z_past w_z_pasts w_z_changed u4 u5 u6 u7) (fun H locs w_z_s w_z_past w_z_pasts w_z_changed u4 u5 u6 u7 h hP hD hS ls hl => ih H locs w_z_s w_z_past w_z_pasts w_z_changed u4 u5 u6 u7 h hP hD hS ls hl) H locs z_s z_past z_pasts z_changed y4 y5 y6 y7 ((y6 + 3) + y7) v7 h hP hD hS ls (lv_sub (l' := [(0, .ref a_z), (4, .int y4), (5, .int y5), (6, .int y6), (7, .int y7)]) hl [0, 1, 2, 3, 4] rfl)
        · have h := ifp h c4
          refine lv_iload hx hb dX9_declareMethod_150 (lv_at hl 4 rfl) ?_
          refine lv_goto (tgt := 169) hx hb dX9_declareMethod_152 (by decide) ?_
          exact F169 (fun w_z_s w_z_past w_z_pasts w_z_changed u4 u5 u6 u7 => lX9_declareMethod_128  n w_z_s w_z_past w_z_pasts w_z_changed u4 u5 u6 u7) (fun H locs w_z_s w_z_past w_z_pasts w_z_changed u4 u5 u6 u7 h hP hD hS ls hl => ih H locs w_z_s w_z_past w_z_pasts w_z_changed u4 u5 u6 u7 h hP hD hS ls hl) H locs z_s z_past z_pasts z_changed y4 y5 y6 y7 ((y6 + 3) + y7) y7 h hP hD hS ls (lv_sub (l' := [(0, .ref a_z), (4, .int y4), (5, .int y5), (6, .int y6), (7, .int y7)]) hl [0, 1, 2, 3, 4] rfl)
  unfold fX9_declareMethod at h
  refine lv_aload_n hx hb dX9_declareMethod_0 rfl (lv_at hl 0 rfl) ?_
  refine lv_iload_n hx hb dX9_declareMethod_1 rfl (lv_at hl 1 rfl) ?_
  obtain ⟨v1, ev1, h⟩ := bn_some h
  have hs2 : va_P D vwCl (W_z cI cM a_z a_z_s a_z_past a_z_keeps a_z_entryKey a_z_entryDefault a_z_held a_z_values a_z_kinds a_z_news z_s z_past z_pasts z_changed z_entries z_keeps z_entryKey z_entryDefault z_counter z_held z_values z_kinds z_news) _ := hP.sub (ws' := W_z cI cM a_z a_z_s a_z_past a_z_keeps a_z_entryKey a_z_entryDefault a_z_held a_z_values a_z_kinds a_z_news z_s z_past z_pasts z_changed z_entries z_keeps z_entryKey z_entryDefault z_counter z_held z_values z_kinds z_news) [0, 1, 2, 3, 4, 5, 6, 7, 8, 9] rfl
  refine kV (As := [.int x1]) (rest := []) SS hKK (qX9_isType l D cI cM a_z a_z_s a_z_past a_z_keeps a_z_entryKey a_z_entryDefault a_z_held a_z_values a_z_kinds a_z_news z_s z_past z_pasts z_changed z_entries z_keeps z_entryKey z_entryDefault z_counter z_held z_values z_kinds z_news x1 v1 ev1) cw80 hs2 0 9 rfl rfl rfl hl.1 rfl (Nat.le_of_ble_eq_true rfl) dX9_declareMethod_2 ⟨Nat.zero_le _, Nat.zero_le _⟩ ?_
  refine lv_if_eq (tgt := 26) hx hb dX9_declareMethod_5 (by decide) (fun c3 => ?_) (fun c3 => ?_)
  · have h := ifp h c3
    refine lv_iconst (v := (-1)) hx hb dX9_declareMethod_26 (by decide) ?_
    simp only [Option.some.injEq, Prod.mk.injEq] at h
    obtain ⟨e0, e1, e2, e3, e4⟩ := h
    exact kRetI hx hb hr hlk e0 (by rw [← hw1, ← e1, ← e2, ← e3, ← e4]; exact hP) hS dX9_declareMethod_27
  · have h := ifn h c3
    refine lv_iload_n hx hb dX9_declareMethod_8 rfl (lv_at hl 2 rfl) ?_
    refine lv_iconst (v := 0) hx hb dX9_declareMethod_9 (by decide) ?_
    refine lv_iconst (v := 5) hx hb dX9_declareMethod_10 (by decide) ?_
    obtain ⟨v4, ev4, h⟩ := bn_some h
    refine kS (As := [.int x2, .int 0, .int 5]) (rest := []) SS hKK (qX9_in l D cI cM x2 0 5 v4 ev4) cw44 va_P_nil rfl hl.1 rfl (Nat.le_of_ble_eq_true rfl) dX9_declareMethod_11 ⟨Nat.zero_le _, Nat.zero_le _⟩ ?_
    refine lv_if_eq (tgt := 26) hx hb dX9_declareMethod_14 (by decide) (fun c5 => ?_) (fun c5 => ?_)
    · have h := ifp h c5
      refine lv_iconst (v := (-1)) hx hb dX9_declareMethod_26 (by decide) ?_
      simp only [Option.some.injEq, Prod.mk.injEq] at h
      obtain ⟨e0, e1, e2, e3, e4⟩ := h
      exact kRetI hx hb hr hlk e0 (by rw [← hw1, ← e1, ← e2, ← e3, ← e4]; exact hP) hS dX9_declareMethod_27
    · have h := ifn h c5
      refine lv_iload_n hx hb dX9_declareMethod_17 rfl (lv_at hl 3 rfl) ?_
      refine lv_iconst (v := 0) hx hb dX9_declareMethod_18 (by decide) ?_
      refine lv_iconst (v := 5) hx hb dX9_declareMethod_19 (by decide) ?_
      obtain ⟨v6, ev6, h⟩ := bn_some h
      refine kS (As := [.int x3, .int 0, .int 5]) (rest := []) SS hKK (qX9_in l D cI cM x3 0 5 v6 ev6) cw44 va_P_nil rfl hl.1 rfl (Nat.le_of_ble_eq_true rfl) dX9_declareMethod_20 ⟨Nat.zero_le _, Nat.zero_le _⟩ ?_
      refine lv_if_ne (tgt := 28) hx hb dX9_declareMethod_23 (by decide) (fun c7 => ?_) (fun c7 => ?_)
      · have h := ifn h c7
        refine lv_aload_n hx hb dX9_declareMethod_28 rfl (lv_at hl 0 rfl) ?_
        refine lv_iload_n hx hb dX9_declareMethod_29 rfl (lv_at hl 1 rfl) ?_
        refine lv_iload_n hx hb dX9_declareMethod_30 rfl (lv_at hl 2 rfl) ?_
        refine lv_iload_n hx hb dX9_declareMethod_31 rfl (lv_at hl 3 rfl) ?_
        obtain ⟨v8, ev8, h⟩ := bn_some h
        refine kV (As := [.int x1, .int x2, .int x3]) (rest := []) SS hKK (qX9_relatives l D cI cM a_z a_z_s a_z_past a_z_keeps a_z_entryKey a_z_entryDefault a_z_held a_z_values a_z_kinds a_z_news z_s z_past z_pasts z_changed z_entries z_keeps z_entryKey z_entryDefault z_counter z_held z_values z_kinds z_news x1 x2 x3 v8 ev8) cw95 hs2 0 9 rfl rfl rfl hl.1 rfl (Nat.le_of_ble_eq_true rfl) dX9_declareMethod_32 ⟨Nat.zero_le _, Nat.zero_le _⟩ ?_
        refine lv_istore (lv' := [(4, .int v8), (0, .ref a_z), (1, .int x1), (2, .int x2), (3, .int x3)]) hx hb dX9_declareMethod_35 hl (by decide) rfl (fun ls hl => ?_)
        refine lv_aload_n hx hb dX9_declareMethod_37 rfl (lv_at hl 1 rfl) ?_
        refine lv_iload_n hx hb dX9_declareMethod_38 rfl (lv_at hl 2 rfl) ?_
        refine lv_iload_n hx hb dX9_declareMethod_39 rfl (lv_at hl 3 rfl) ?_
        refine lv_iload_n hx hb dX9_declareMethod_40 rfl (lv_at hl 4 rfl) ?_
        obtain ⟨v9, ev9, h⟩ := bn_some h
        refine kV (As := [.int x1, .int x2, .int x3]) (rest := []) SS hKK (qX9_declares l D cI cM a_z a_z_s a_z_past a_z_keeps a_z_entryKey a_z_entryDefault a_z_held a_z_values a_z_kinds a_z_news z_s z_past z_pasts z_changed z_entries z_keeps z_entryKey z_entryDefault z_counter z_held z_values z_kinds z_news x1 x2 x3 v9 ev9) cw99 hs2 0 9 rfl rfl rfl hl.1 rfl (Nat.le_of_ble_eq_true rfl) dX9_declareMethod_41 ⟨Nat.zero_le _, Nat.zero_le _⟩ ?_
        refine lv_if_ne (tgt := 56) hx hb dX9_declareMethod_44 (by decide) (fun c10 => ?_) (fun c10 => ?_)
        · have h := ifn h c10
          refine lv_bipush (v := (-2)) hx hb dX9_declareMethod_56 (by decide) ?_
          simp only [Option.some.injEq, Prod.mk.injEq] at h
          obtain ⟨e0, e1, e2, e3, e4⟩ := h
          exact kRetI hx hb hr hlk e0 (by rw [← hw1, ← e1, ← e2, ← e3, ← e4]; exact hP) hS dX9_declareMethod_58
        · have h := ifp h c10
          refine lv_aload_n hx hb dX9_declareMethod_47 rfl (lv_at hl 1 rfl) ?_
          refine lv_iload hx hb dX9_declareMethod_48 (lv_at hl 0 rfl) ?_
          obtain ⟨v11, ev11, h⟩ := bn_some h
          refine kV (As := [.int v8]) (rest := []) SS hKK (qX9_haveOneList l D cI cM a_z a_z_s a_z_past a_z_keeps a_z_entryKey a_z_entryDefault a_z_held a_z_values a_z_kinds a_z_news z_s z_past z_pasts z_changed z_entries z_keeps z_entryKey z_entryDefault z_counter z_held z_values z_kinds z_news v8 v11 ev11) cw102 hs2 0 9 rfl rfl rfl hl.1 rfl (Nat.le_of_ble_eq_true rfl) dX9_declareMethod_50 ⟨Nat.zero_le _, Nat.zero_le _⟩ ?_
          refine lv_if_ne (tgt := 59) hx hb dX9_declareMethod_53 (by decide) (fun c12 => ?_) (fun c12 => ?_)
          · have h := ifn h c12
            refine lv_aload_n hx hb dX9_declareMethod_59 rfl (lv_at hl 1 rfl) ?_
            refine va_get (D := D) (ci := 9) (v := .ref a_z_s) (C := RX9) (T := TX9) (N := 13) hx hb hts hinX9 hown hKK.1 hP 0 rfl rfl 0 (by decide) lk7 (fun _ h9 => h9) rfl dX9_declareMethod_60 ?_
            refine lv_bipush (v := 25) hx hb dX9_declareMethod_63 (by decide) ?_
            obtain ⟨v13, iv13, ev13, h⟩ := rd_some h
            refine kAld hx hb hKK hP 1 rfl iv13 ev13 dX9_declareMethod_65 ?_
            refine lv_bipush (v := 16) hx hb dX9_declareMethod_66 (by decide) ?_
            refine lv_icmp_ne (tgt := 74) hx hb dX9_declareMethod_68 (by decide) (fun c14 => ?_) (fun c14 => ?_)
            · have h := ifn h c14
              refine lv_aload_n hx hb dX9_declareMethod_74 rfl (lv_at hl 1 rfl) ?_
              obtain ⟨g15, g16, g17, eg15, h⟩ := bn3_some h
              refine kVI (As := []) (rest := []) (st1 := []) SS hKK (qX9_edit l D cI cM a_z a_z_s a_z_past a_z_keeps a_z_entryKey a_z_entryDefault a_z_held a_z_values a_z_kinds a_z_news z_s z_past z_pasts z_changed z_entries z_keeps z_entryKey z_entryDefault z_counter z_held z_values z_kinds z_news g15 g16 g17 eg15) cw86 hP hD hS [0, 1, 2, 3, 4, 5, 6, 7, 8, 9] rfl rfl rfl rfl 0 9 rfl rfl rfl hl.1 rfl (Nat.le_of_ble_eq_true rfl) dX9_declareMethod_75 ⟨Nat.zero_le _, Nat.zero_le _⟩ rfl (fun H locs hP hD hS => ?_)
              have hP : va_P D vwCl (W_z cI cM a_z a_z_s a_z_past a_z_keeps a_z_entryKey a_z_entryDefault a_z_held a_z_values a_z_kinds a_z_news z_s g15 g16 g17 z_entries z_keeps z_entryKey z_entryDefault z_counter z_held z_values z_kinds z_news) H := hP
              have hD : va_D _ (W_z cI cM a_z a_z_s a_z_past a_z_keeps a_z_entryKey a_z_entryDefault a_z_held a_z_values a_z_kinds a_z_news z_s g15 g16 g17 z_entries z_keeps z_entryKey z_entryDefault z_counter z_held z_values z_kinds z_news) := hD
              refine lv_aload_n hx hb dX9_declareMethod_78 rfl (lv_at hl 1 rfl) ?_
              refine va_get (D := D) (ci := 9) (v := .ref a_z_s) (C := RX9) (T := TX9) (N := 13) hx hb hts hinX9 hown hKK.1 hP 0 rfl rfl 0 (by decide) lk7 (fun _ h9 => h9) rfl dX9_declareMethod_79 ?_
              refine lv_bipush (v := 25) hx hb dX9_declareMethod_82 (by decide) ?_
              obtain ⟨v18, iv18, ev18, h⟩ := rd_some h
              refine kAld hx hb hKK hP 1 rfl iv18 ev18 dX9_declareMethod_84 ?_
              refine lv_istore (lv' := [(5, .int v18), (4, .int v8), (0, .ref a_z), (1, .int x1), (2, .int x2), (3, .int x3)]) hx hb dX9_declareMethod_85 hl (by decide) rfl (fun ls hl => ?_)
              refine lv_bipush (v := 26) hx hb dX9_declareMethod_87 (by decide) ?_
              refine lv_bipush (v := 13) hx hb dX9_declareMethod_89 (by decide) ?_
              refine lv_iload hx hb dX9_declareMethod_91 (lv_at hl 0 rfl) ?_
              refine lv_imul hx hb dX9_declareMethod_93 ?_
              refine lv_iadd hx hb dX9_declareMethod_94 ?_
              refine lv_istore (lv' := [(6, .int (26 + (13 * v18))), (5, .int v18), (4, .int v8), (0, .ref a_z), (1, .int x1), (2, .int x2), (3, .int x3)]) hx hb dX9_declareMethod_95 hl (by decide) rfl (fun ls hl => ?_)
              refine lv_aload_n hx hb dX9_declareMethod_97 rfl (lv_at hl 3 rfl) ?_
              refine va_get (D := D) (ci := 9) (v := .ref a_z_s) (C := RX9) (T := TX9) (N := 13) hx hb hts hinX9 hown hKK.1 hP 0 rfl rfl 0 (by decide) lk7 (fun _ h9 => h9) rfl dX9_declareMethod_98 ?_
              refine lv_iload hx hb dX9_declareMethod_101 (lv_at hl 0 rfl) ?_
              refine lv_iload_n hx hb dX9_declareMethod_103 rfl (lv_at hl 4 rfl) ?_
              obtain ⟨g19, ig19, eg19, h⟩ := wr_some h
              refine kAst hx hb hKK hP hD hS 1 rfl ig19 eg19 dX9_declareMethod_104 (fun H locs hP hD hS => ?_)
              have hP : va_P D vwCl (W_z cI cM a_z a_z_s a_z_past a_z_keeps a_z_entryKey a_z_entryDefault a_z_held a_z_values a_z_kinds a_z_news g19 g15 g16 g17 z_entries z_keeps z_entryKey z_entryDefault z_counter z_held z_values z_kinds z_news) H := hP
              have hD : va_D _ (W_z cI cM a_z a_z_s a_z_past a_z_keeps a_z_entryKey a_z_entryDefault a_z_held a_z_values a_z_kinds a_z_news g19 g15 g16 g17 z_entries z_keeps z_entryKey z_entryDefault z_counter z_held z_values z_kinds z_news) := hD
              refine lv_aload_n hx hb dX9_declareMethod_105 rfl (lv_at hl 3 rfl) ?_
              refine va_get (D := D) (ci := 9) (v := .ref a_z_s) (C := RX9) (T := TX9) (N := 13) hx hb hts hinX9 hown hKK.1 hP 0 rfl rfl 0 (by decide) lk7 (fun _ h9 => h9) rfl dX9_declareMethod_106 ?_
              refine lv_iload hx hb dX9_declareMethod_109 (lv_at hl 0 rfl) ?_
              refine lv_iconst (v := 1) hx hb dX9_declareMethod_111 (by decide) ?_
              refine lv_iadd hx hb dX9_declareMethod_112 ?_
              refine lv_iload_n hx hb dX9_declareMethod_113 rfl (lv_at hl 5 rfl) ?_
              obtain ⟨g20, ig20, eg20, h⟩ := wr_some h
              refine kAst hx hb hKK hP hD hS 1 rfl ig20 eg20 dX9_declareMethod_114 (fun H locs hP hD hS => ?_)
              have hP : va_P D vwCl (W_z cI cM a_z a_z_s a_z_past a_z_keeps a_z_entryKey a_z_entryDefault a_z_held a_z_values a_z_kinds a_z_news g20 g15 g16 g17 z_entries z_keeps z_entryKey z_entryDefault z_counter z_held z_values z_kinds z_news) H := hP
              have hD : va_D _ (W_z cI cM a_z a_z_s a_z_past a_z_keeps a_z_entryKey a_z_entryDefault a_z_held a_z_values a_z_kinds a_z_news g20 g15 g16 g17 z_entries z_keeps z_entryKey z_entryDefault z_counter z_held z_values z_kinds z_news) := hD
              refine lv_aload_n hx hb dX9_declareMethod_115 rfl (lv_at hl 3 rfl) ?_
              refine va_get (D := D) (ci := 9) (v := .ref a_z_s) (C := RX9) (T := TX9) (N := 13) hx hb hts hinX9 hown hKK.1 hP 0 rfl rfl 0 (by decide) lk7 (fun _ h9 => h9) rfl dX9_declareMethod_116 ?_
              refine lv_iload hx hb dX9_declareMethod_119 (lv_at hl 0 rfl) ?_
              refine lv_iconst (v := 2) hx hb dX9_declareMethod_121 (by decide) ?_
              refine lv_iadd hx hb dX9_declareMethod_122 ?_
              refine lv_iload_n hx hb dX9_declareMethod_123 rfl (lv_at hl 6 rfl) ?_
              obtain ⟨g21, ig21, eg21, h⟩ := wr_some h
              refine kAst hx hb hKK hP hD hS 1 rfl ig21 eg21 dX9_declareMethod_124 (fun H locs hP hD hS => ?_)
              have hP : va_P D vwCl (W_z cI cM a_z a_z_s a_z_past a_z_keeps a_z_entryKey a_z_entryDefault a_z_held a_z_values a_z_kinds a_z_news g21 g15 g16 g17 z_entries z_keeps z_entryKey z_entryDefault z_counter z_held z_values z_kinds z_news) H := hP
              have hD : va_D _ (W_z cI cM a_z a_z_s a_z_past a_z_keeps a_z_entryKey a_z_entryDefault a_z_held a_z_values a_z_kinds a_z_news g21 g15 g16 g17 z_entries z_keeps z_entryKey z_entryDefault z_counter z_held z_values z_kinds z_news) := hD
              refine lv_iconst (v := 0) hx hb dX9_declareMethod_125 (by decide) ?_
              refine lv_istore (lv' := [(7, .int 0), (6, .int (26 + (13 * v18))), (5, .int v18), (4, .int v8), (0, .ref a_z), (1, .int x1), (2, .int x2), (3, .int x3)]) hx hb dX9_declareMethod_126 hl (by decide) rfl (fun ls hl => ?_)
              exact F128 5000 H locs g21 g15 g16 g17 v8 v18 (26 + (13 * v18)) 0 h hP hD hS ls (lv_sub (l' := [(0, .ref a_z), (4, .int v8), (5, .int v18), (6, .int (26 + (13 * v18))), (7, .int 0)]) hl [4, 3, 2, 1, 0] rfl)
            · have h := ifp h c14
              refine lv_bipush (v := (-3)) hx hb dX9_declareMethod_71 (by decide) ?_
              simp only [Option.some.injEq, Prod.mk.injEq] at h
              obtain ⟨e0, e1, e2, e3, e4⟩ := h
              exact kRetI hx hb hr hlk e0 (by rw [← hw1, ← e1, ← e2, ← e3, ← e4]; exact hP) hS dX9_declareMethod_73
          · have h := ifp h c12
            refine lv_bipush (v := (-2)) hx hb dX9_declareMethod_56 (by decide) ?_
            simp only [Option.some.injEq, Prod.mk.injEq] at h
            obtain ⟨e0, e1, e2, e3, e4⟩ := h
            exact kRetI hx hb hr hlk e0 (by rw [← hw1, ← e1, ← e2, ← e3, ← e4]; exact hP) hS dX9_declareMethod_58
      · have h := ifp h c7
        refine lv_iconst (v := (-1)) hx hb dX9_declareMethod_26 (by decide) ?_
        simp only [Option.some.injEq, Prod.mk.injEq] at h
        obtain ⟨e0, e1, e2, e3, e4⟩ := h
        exact kRetI hx hb hr hlk e0 (by rw [← hw1, ← e1, ← e2, ← e3, ← e4]; exact hP) hS dX9_declareMethod_27
set_option maxHeartbeats 8000000 in
set_option maxRecDepth 100000 in
theorem qX9_familyOf (l : Launch) (D : va_G) (cI cM : ClassId) (a_z a_z_s a_z_past a_z_keeps a_z_entryKey a_z_entryDefault a_z_held a_z_values a_z_kinds a_z_news : Nat) (z_s : Nat → Int32) (z_past : Nat → Int32) (z_pasts : Int32) (z_changed : Int32) (z_entries : Int32) (z_keeps : Nat → Int32) (z_entryKey : Nat → Int32) (z_entryDefault : Nat → Int32) (z_counter : Int32) (z_held : Nat → Int32) (z_values : Nat → Int32) (z_kinds : Nat → Int32) (z_news : Nat → Int32) (x1 : Int32) (r : Int32) (h : fX9_familyOf z_s x1 = some r) : PM l yX9_familyOf wsX9_familyOf rmX9_familyOf D cI cM [.ref a_z, .int x1] (W_z cI cM a_z a_z_s a_z_past a_z_keeps a_z_entryKey a_z_entryDefault a_z_held a_z_values a_z_kinds a_z_news z_s z_past z_pasts z_changed z_entries z_keeps z_entryKey z_entryDefault z_counter z_held z_values z_kinds z_news) r := by
  refine PM.of (cc := cX9_familyOf) (maxL := 6) (ret := (some .int)) (by decide) rfl (Nat.le_of_ble_eq_true rfl) ?_
  intro p e s m below meth c ls hx hb hr hml hown hts hlk hP hKK hl
  have hown : s.vm.findClass RX9 = some m.cls := hown
  have hl : lv_has ls 6 [(0, .ref a_z), (1, .int x1)] := hl
  generalize hav : ([.ref a_z, .int x1] : List Value) = av at hts ⊢
  have SS : CallFix p m c cX9_familyOf 6 s av.toArray wsX9_familyOf RX9 := ⟨hx, hb, hml, hown, hts⟩
  have hinX9 : ∀ w ∈ u_ws RX9 TX9 13, w ∈ wsX9_familyOf := by decide +kernel
  have lk7 := hts (.fieldLink RX9 7 "SignatureChangerModel" "s" "[I") (List.mem_of_getElem? (i := 1) rfl)
  have cw48 : CallB rmX9_familyOf s av.toArray RX9 48 yX9_has cX9_has 2 (some .boolean) wsX9_has rmX9_has 0 0 2 ∧ (Cond.static yX9_has).before av.toArray s = true := va_cwS 2 hts gX9_familyOf_X9_has rfl rfl rfl (by decide +kernel) ⟨Nat.le_of_ble_eq_true rfl, Nat.le_of_ble_eq_true rfl⟩
  have cw63 : CallW rmX9_familyOf s av.toArray RX9 RX9 63 yX9_of cX9_of 3 (some .int) wsX9_of rmX9_of 0 0 2 := cwV 2 hts gX9_familyOf_X9_of rfl rfl rfl (by decide +kernel) ⟨Nat.le_of_ble_eq_true rfl, Nat.le_of_ble_eq_true rfl⟩
  have cw95 : CallW rmX9_familyOf s av.toArray RX9 RX9 95 yX9_relatives cX9_relatives 6 (some .int) wsX9_relatives rmX9_relatives 0 0 3 := cwV 3 hts gX9_familyOf_X9_relatives rfl rfl rfl (by decide +kernel) ⟨Nat.le_of_ble_eq_true rfl, Nat.le_of_ble_eq_true rfl⟩
  have F86 : ∀ (k6 : Int32 → Int32 → Option (Int32)) (hk6 : ∀ (u2 : Int32) (u3 : Int32), k6 u2 u3 = some r → ∀ ls : Array Slot, lv_has ls 6 [(0, .ref a_z), (2, .int u2), (3, .int u3)] → WP p l e rmX9_familyOf s m av below meth c r 6 ls []), ∀ (y2 : Int32) (s0 : Int32), jX9_familyOf_86 z_s k6 y2 s0 = some r → ∀ ls : Array Slot, lv_has ls 6 [(0, .ref a_z), (2, .int y2)] → WP p l e rmX9_familyOf s m av below meth c r 86 ls [.int s0] := by
    intro k6 hk6
    intro y2 s0 h ls hl
    unfold jX9_familyOf_86 at h
    refine lv_istore_n (lv' := [(3, .int s0), (0, .ref a_z), (2, .int y2)]) hx hb dX9_familyOf_86 rfl hl (by decide) rfl (fun ls hl => ?_)
    refine lv_goto (tgt := 6) hx hb dX9_familyOf_87 (by decide) ?_
    exact hk6 y2 s0 h ls (lv_sub (l' := [(0, .ref a_z), (2, .int y2), (3, .int s0)]) hl [1, 2, 0] rfl)
  have F67 : ∀ (k6 : Int32 → Int32 → Option (Int32)) (k16 : Int32 → Int32 → Int32 → Option (Int32)) (hk6 : ∀ (u2 : Int32) (u3 : Int32), k6 u2 u3 = some r → ∀ ls : Array Slot, lv_has ls 6 [(0, .ref a_z), (2, .int u2), (3, .int u3)] → WP p l e rmX9_familyOf s m av below meth c r 6 ls []) (hk16 : ∀ (u2 : Int32) (u4 : Int32) (u5 : Int32), k16 u2 u4 u5 = some r → ∀ ls : Array Slot, lv_has ls 6 [(0, .ref a_z), (2, .int u2), (4, .int u4), (5, .int u5)] → WP p l e rmX9_familyOf s m av below meth c r 16 ls []), ∀ (y4 : Int32) (y5 : Int32) (s0 : Int32) (s1 : Int32), jX9_familyOf_67 z_s k6 k16 y4 y5 s0 s1 = some r → ∀ ls : Array Slot, lv_has ls 6 [(0, .ref a_z), (4, .int y4), (5, .int y5)] → WP p l e rmX9_familyOf s m av below meth c r 67 ls [.int s1, .int s0] := by
    intro k6 k16 hk6 hk16
    intro y4 y5 s0 s1 h ls hl
    unfold jX9_familyOf_67 at h
    refine lv_ior hx hb dX9_familyOf_67 ?_
    refine lv_istore_n (lv' := [(2, .int (s0 ||| s1)), (0, .ref a_z), (4, .int y4), (5, .int y5)]) hx hb dX9_familyOf_68 rfl hl (by decide) rfl (fun ls hl => ?_)
    refine lv_iinc (v := y5 + 1) (lv' := [(5, .int (y5 + 1)), (2, .int (s0 ||| s1)), (0, .ref a_z), (4, .int y4)]) hx hb dX9_familyOf_69 hl (k := 3) rfl rfl (by decide) rfl (fun ls hl => ?_)
    refine lv_goto (tgt := 16) hx hb dX9_familyOf_72 (by decide) ?_
    exact hk16 (s0 ||| s1) y4 (y5 + 1) h ls (lv_sub (l' := [(0, .ref a_z), (2, .int (s0 ||| s1)), (4, .int y4), (5, .int (y5 + 1))]) hl [2, 1, 3, 0] rfl)
  have F16 : ∀ (k6 : Int32 → Int32 → Option (Int32)) (hk6 : ∀ (u2 : Int32) (u3 : Int32), k6 u2 u3 = some r → ∀ ls : Array Slot, lv_has ls 6 [(0, .ref a_z), (2, .int u2), (3, .int u3)] → WP p l e rmX9_familyOf s m av below meth c r 6 ls []), ∀ (n : Nat) (y2 : Int32) (y4 : Int32) (y5 : Int32), lX9_familyOf_16 z_s k6 n y2 y4 y5 = some r → ∀ ls : Array Slot, lv_has ls 6 [(0, .ref a_z), (2, .int y2), (4, .int y4), (5, .int y5)] → WP p l e rmX9_familyOf s m av below meth c r 16 ls [] := by
    intro k6 hk6
    intro n
    induction n with
    | zero => intro y2 y4 y5 h; exact no_some h
    | succ n ih =>
      intro y2 y4 y5 h ls hl
      rw [lX9_familyOf_16_s] at h
      refine lv_iload hx hb dX9_familyOf_16 (lv_at hl 3 rfl) ?_
      refine lv_aload_n hx hb dX9_familyOf_18 rfl (lv_at hl 0 rfl) ?_
      refine va_get (D := D) (ci := 9) (v := .ref a_z_s) (C := RX9) (T := TX9) (N := 13) hx hb hts hinX9 hown hKK.1 hP 0 rfl rfl 0 (by decide) lk7 (fun _ h9 => h9) rfl dX9_familyOf_19 ?_
      refine lv_bipush (v := 25) hx hb dX9_familyOf_22 (by decide) ?_
      obtain ⟨v1, iv1, ev1, h⟩ := rd_some h
      refine kAld hx hb hKK hP 1 rfl iv1 ev1 dX9_familyOf_24 ?_
      refine lv_icmp_ge (tgt := 75) hx hb dX9_familyOf_25 (by decide) (fun c2 => ?_) (fun c2 => ?_)
      · have h := ifp h c2
        refine lv_iload_n hx hb dX9_familyOf_75 rfl (lv_at hl 1 rfl) ?_
        refine lv_iload hx hb dX9_familyOf_76 (lv_at hl 2 rfl) ?_
        refine lv_icmp_eq (tgt := 85) hx hb dX9_familyOf_78 (by decide) (fun c3 => ?_) (fun c3 => ?_)
        · have h := ifp h c3
          refine lv_iconst (v := 0) hx hb dX9_familyOf_85 (by decide) ?_
          exact F86 k6 hk6 y2 0 h ls (lv_sub (l' := [(0, .ref a_z), (2, .int y2)]) hl [0, 1] rfl)
        · have h := ifn h c3
          refine lv_iconst (v := 1) hx hb dX9_familyOf_81 (by decide) ?_
          refine lv_goto (tgt := 86) hx hb dX9_familyOf_82 (by decide) ?_
          exact F86 k6 hk6 y2 1 h ls (lv_sub (l' := [(0, .ref a_z), (2, .int y2)]) hl [0, 1] rfl)
      · have h := ifn h c2
        refine lv_iload_n hx hb dX9_familyOf_28 rfl (lv_at hl 1 rfl) ?_
        refine lv_iload_n hx hb dX9_familyOf_29 rfl (lv_at hl 1 rfl) ?_
        refine lv_iload hx hb dX9_familyOf_30 (lv_at hl 3 rfl) ?_
        obtain ⟨v4, ev4, h⟩ := bn_some h
        refine kS (As := [.int y2, .int y5]) (rest := [.int y2]) SS hKK (qX9_has l D cI cM y2 y5 v4 ev4) cw48 va_P_nil rfl hl.1 rfl (Nat.le_of_ble_eq_true rfl) dX9_familyOf_32 ⟨Nat.zero_le _, Nat.zero_le _⟩ ?_
        refine lv_if_eq (tgt := 66) hx hb dX9_familyOf_35 (by decide) (fun c5 => ?_) (fun c5 => ?_)
        · have h := ifp h c5
          refine lv_iconst (v := 0) hx hb dX9_familyOf_66 (by decide) ?_
          exact F67 k6 (fun u2 u4 u5 => lX9_familyOf_16 z_s k6 n u2 u4 u5) hk6 (fun u2 u4 u5 h ls hl => ih u2 u4 u5 h ls hl) y4 y5 y2 0 h ls (lv_sub (l' := [(0, .ref a_z), (4, .int y4), (5, .int y5)]) hl [0, 2, 3] rfl)
        · have h := ifn h c5
          refine lv_aload_n hx hb dX9_familyOf_38 rfl (lv_at hl 0 rfl) ?_
          refine lv_aload_n hx hb dX9_familyOf_39 rfl (lv_at hl 0 rfl) ?_
          refine lv_iload hx hb dX9_familyOf_40 (lv_at hl 3 rfl) ?_
          refine lv_iconst (v := 0) hx hb dX9_familyOf_42 (by decide) ?_
          obtain ⟨v6, ev6, h⟩ := bn_some h
          have hs7 : va_P D vwCl (W_z cI cM a_z a_z_s a_z_past a_z_keeps a_z_entryKey a_z_entryDefault a_z_held a_z_values a_z_kinds a_z_news z_s z_past z_pasts z_changed z_entries z_keeps z_entryKey z_entryDefault z_counter z_held z_values z_kinds z_news) _ := hP.sub (ws' := W_z cI cM a_z a_z_s a_z_past a_z_keeps a_z_entryKey a_z_entryDefault a_z_held a_z_values a_z_kinds a_z_news z_s z_past z_pasts z_changed z_entries z_keeps z_entryKey z_entryDefault z_counter z_held z_values z_kinds z_news) [0, 1, 2, 3, 4, 5, 6, 7, 8, 9] rfl
          refine kV (As := [.int y5, .int 0]) (rest := [.ref a_z, .int y2]) SS hKK (qX9_of l D cI cM a_z a_z_s a_z_past a_z_keeps a_z_entryKey a_z_entryDefault a_z_held a_z_values a_z_kinds a_z_news z_s z_past z_pasts z_changed z_entries z_keeps z_entryKey z_entryDefault z_counter z_held z_values z_kinds z_news y5 0 v6 ev6) cw63 hs7 0 9 rfl rfl rfl hl.1 rfl (Nat.le_of_ble_eq_true rfl) dX9_familyOf_43 ⟨Nat.zero_le _, Nat.zero_le _⟩ ?_
          refine lv_aload_n hx hb dX9_familyOf_46 rfl (lv_at hl 0 rfl) ?_
          refine lv_iload hx hb dX9_familyOf_47 (lv_at hl 3 rfl) ?_
          refine lv_iconst (v := 1) hx hb dX9_familyOf_49 (by decide) ?_
          obtain ⟨v8, ev8, h⟩ := bn_some h
          refine kV (As := [.int y5, .int 1]) (rest := [.int v6, .ref a_z, .int y2]) SS hKK (qX9_of l D cI cM a_z a_z_s a_z_past a_z_keeps a_z_entryKey a_z_entryDefault a_z_held a_z_values a_z_kinds a_z_news z_s z_past z_pasts z_changed z_entries z_keeps z_entryKey z_entryDefault z_counter z_held z_values z_kinds z_news y5 1 v8 ev8) cw63 hs7 0 9 rfl rfl rfl hl.1 rfl (Nat.le_of_ble_eq_true rfl) dX9_familyOf_50 ⟨Nat.zero_le _, Nat.zero_le _⟩ ?_
          refine lv_aload_n hx hb dX9_familyOf_53 rfl (lv_at hl 0 rfl) ?_
          refine lv_iload hx hb dX9_familyOf_54 (lv_at hl 3 rfl) ?_
          refine lv_iconst (v := 2) hx hb dX9_familyOf_56 (by decide) ?_
          obtain ⟨v9, ev9, h⟩ := bn_some h
          refine kV (As := [.int y5, .int 2]) (rest := [.int v8, .int v6, .ref a_z, .int y2]) SS hKK (qX9_of l D cI cM a_z a_z_s a_z_past a_z_keeps a_z_entryKey a_z_entryDefault a_z_held a_z_values a_z_kinds a_z_news z_s z_past z_pasts z_changed z_entries z_keeps z_entryKey z_entryDefault z_counter z_held z_values z_kinds z_news y5 2 v9 ev9) cw63 hs7 0 9 rfl rfl rfl hl.1 rfl (Nat.le_of_ble_eq_true rfl) dX9_familyOf_57 ⟨Nat.zero_le _, Nat.zero_le _⟩ ?_
          obtain ⟨v10, ev10, h⟩ := bn_some h
          refine kV (As := [.int v6, .int v8, .int v9]) (rest := [.int y2]) SS hKK (qX9_relatives l D cI cM a_z a_z_s a_z_past a_z_keeps a_z_entryKey a_z_entryDefault a_z_held a_z_values a_z_kinds a_z_news z_s z_past z_pasts z_changed z_entries z_keeps z_entryKey z_entryDefault z_counter z_held z_values z_kinds z_news v6 v8 v9 v10 ev10) cw95 hs7 0 9 rfl rfl rfl hl.1 rfl (Nat.le_of_ble_eq_true rfl) dX9_familyOf_60 ⟨Nat.zero_le _, Nat.zero_le _⟩ ?_
          refine lv_goto (tgt := 67) hx hb dX9_familyOf_63 (by decide) ?_
          exact F67 k6 (fun u2 u4 u5 => lX9_familyOf_16 z_s k6 n u2 u4 u5) hk6 (fun u2 u4 u5 h ls hl => ih u2 u4 u5 h ls hl) y4 y5 y2 v10 h ls (lv_sub (l' := [(0, .ref a_z), (4, .int y4), (5, .int y5)]) hl [0, 2, 3] rfl)
  have F6 : ∀ (n : Nat) (y2 : Int32) (y3 : Int32), lX9_familyOf_6 z_s n y2 y3 = some r → ∀ ls : Array Slot, lv_has ls 6 [(0, .ref a_z), (2, .int y2), (3, .int y3)] → WP p l e rmX9_familyOf s m av below meth c r 6 ls [] := by
    intro n
    induction n with
    | zero => intro y2 y3 h; exact no_some h
    | succ n ih =>
      intro y2 y3 h ls hl
      rw [lX9_familyOf_6_s] at h
      refine lv_iload_n hx hb dX9_familyOf_6 rfl (lv_at hl 2 rfl) ?_
      refine lv_if_eq (tgt := 90) hx hb dX9_familyOf_7 (by decide) (fun c1 => ?_) (fun c1 => ?_)
      · have h := ifp h c1
        refine lv_iload_n hx hb dX9_familyOf_90 rfl (lv_at hl 1 rfl) ?_
        exact kRet hx hb hr hlk (Option.some.inj h) dX9_familyOf_91
      · have h := ifn h c1
        refine lv_iload_n hx hb dX9_familyOf_10 rfl (lv_at hl 1 rfl) ?_
        refine lv_istore (lv' := [(4, .int y2), (0, .ref a_z), (2, .int y2), (3, .int y3)]) hx hb dX9_familyOf_11 hl (by decide) rfl (fun ls hl => ?_)
        refine lv_iconst (v := 0) hx hb dX9_familyOf_13 (by decide) ?_
        refine lv_istore (lv' := [(5, .int 0), (4, .int y2), (0, .ref a_z), (2, .int y2), (3, .int y3)]) hx hb dX9_familyOf_14 hl (by decide) rfl (fun ls hl => ?_)
        exact F16 (fun u2 u3 => lX9_familyOf_6 z_s n u2 u3) (fun u2 u3 h ls hl => ih u2 u3 h ls hl) 5000 y2 y2 0 h ls (lv_sub (l' := [(0, .ref a_z), (2, .int y2), (4, .int y2), (5, .int 0)]) hl [2, 3, 1, 0] rfl)
  unfold fX9_familyOf at h
  refine lv_iconst (v := 1) hx hb dX9_familyOf_0 (by decide) ?_
  refine lv_iload_n hx hb dX9_familyOf_1 rfl (lv_at hl 1 rfl) ?_
  refine lv_ishl hx hb dX9_familyOf_2 ?_
  refine lv_istore_n (lv' := [(2, .int (1 <<< (x1 &&& 31))), (0, .ref a_z), (1, .int x1)]) hx hb dX9_familyOf_3 rfl hl (by decide) rfl (fun ls hl => ?_)
  refine lv_iconst (v := 1) hx hb dX9_familyOf_4 (by decide) ?_
  refine lv_istore_n (lv' := [(3, .int 1), (2, .int (1 <<< (x1 &&& 31))), (0, .ref a_z), (1, .int x1)]) hx hb dX9_familyOf_5 rfl hl (by decide) rfl (fun ls hl => ?_)
  exact F6 5000 (1 <<< (x1 &&& 31)) 1 h ls (lv_sub (l' := [(0, .ref a_z), (2, .int (1 <<< (x1 &&& 31))), (3, .int 1)]) hl [2, 1, 0] rfl)
set_option maxHeartbeats 8000000 in
set_option maxRecDepth 100000 in
theorem qX9_typeCount (l : Launch) (D : va_G) (cI cM : ClassId) (a_z a_z_s a_z_past a_z_keeps a_z_entryKey a_z_entryDefault a_z_held a_z_values a_z_kinds a_z_news : Nat) (z_s : Nat → Int32) (z_past : Nat → Int32) (z_pasts : Int32) (z_changed : Int32) (z_entries : Int32) (z_keeps : Nat → Int32) (z_entryKey : Nat → Int32) (z_entryDefault : Nat → Int32) (z_counter : Int32) (z_held : Nat → Int32) (z_values : Nat → Int32) (z_kinds : Nat → Int32) (z_news : Nat → Int32) (r : Int32) (h : fX9_typeCount z_s = some r) : PM l yX9_typeCount wsX9_typeCount rmX9_typeCount D cI cM [.ref a_z] (W_z cI cM a_z a_z_s a_z_past a_z_keeps a_z_entryKey a_z_entryDefault a_z_held a_z_values a_z_kinds a_z_news z_s z_past z_pasts z_changed z_entries z_keeps z_entryKey z_entryDefault z_counter z_held z_values z_kinds z_news) r := by
  refine PM.of (cc := cX9_typeCount) (maxL := 1) (ret := (some .int)) (by decide) rfl (Nat.le_of_ble_eq_true rfl) ?_
  intro p e s m below meth c ls hx hb hr hml hown hts hlk hP hKK hl
  have hown : s.vm.findClass RX9 = some m.cls := hown
  have hl : lv_has ls 1 [(0, .ref a_z)] := hl
  generalize hav : ([.ref a_z] : List Value) = av at hts ⊢
  have SS : CallFix p m c cX9_typeCount 1 s av.toArray wsX9_typeCount RX9 := ⟨hx, hb, hml, hown, hts⟩
  have hinX9 : ∀ w ∈ u_ws RX9 TX9 13, w ∈ wsX9_typeCount := by decide +kernel
  have lk7 := hts (.fieldLink RX9 7 "SignatureChangerModel" "s" "[I") (List.mem_of_getElem? (i := 1) rfl)
  unfold fX9_typeCount at h
  refine lv_aload_n hx hb dX9_typeCount_0 rfl (lv_at hl 0 rfl) ?_
  refine va_get (D := D) (ci := 9) (v := .ref a_z_s) (C := RX9) (T := TX9) (N := 13) hx hb hts hinX9 hown hKK.1 hP 0 rfl rfl 0 (by decide) lk7 (fun _ h9 => h9) rfl dX9_typeCount_1 ?_
  refine lv_iconst (v := 0) hx hb dX9_typeCount_4 (by decide) ?_
  obtain ⟨v1, iv1, ev1, h⟩ := rd_some h
  refine kAld hx hb hKK hP 1 rfl iv1 ev1 dX9_typeCount_5 ?_
  exact kRet hx hb hr hlk (Option.some.inj h) dX9_typeCount_6
set_option maxHeartbeats 8000000 in
set_option maxRecDepth 100000 in
theorem qX9_isSubtype (l : Launch) (D : va_G) (cI cM : ClassId) (a_z a_z_s a_z_past a_z_keeps a_z_entryKey a_z_entryDefault a_z_held a_z_values a_z_kinds a_z_news : Nat) (z_s : Nat → Int32) (z_past : Nat → Int32) (z_pasts : Int32) (z_changed : Int32) (z_entries : Int32) (z_keeps : Nat → Int32) (z_entryKey : Nat → Int32) (z_entryDefault : Nat → Int32) (z_counter : Int32) (z_held : Nat → Int32) (z_values : Nat → Int32) (z_kinds : Nat → Int32) (z_news : Nat → Int32) (x1 : Int32) (x2 : Int32) (r : Int32) (h : fX9_isSubtype z_s x1 x2 = some r) : PM l yX9_isSubtype wsX9_isSubtype rmX9_isSubtype D cI cM [.ref a_z, .int x1, .int x2] (W_z cI cM a_z a_z_s a_z_past a_z_keeps a_z_entryKey a_z_entryDefault a_z_held a_z_values a_z_kinds a_z_news z_s z_past z_pasts z_changed z_entries z_keeps z_entryKey z_entryDefault z_counter z_held z_values z_kinds z_news) r := by
  refine PM.of (cc := cX9_isSubtype) (maxL := 3) (ret := (some .int)) (by decide) rfl (Nat.le_of_ble_eq_true rfl) ?_
  intro p e s m below meth c ls hx hb hr hml hown hts hlk hP hKK hl
  have hown : s.vm.findClass RX9 = some m.cls := hown
  have hl : lv_has ls 3 [(0, .ref a_z), (1, .int x1), (2, .int x2)] := hl
  generalize hav : ([.ref a_z, .int x1, .int x2] : List Value) = av at hts ⊢
  have SS : CallFix p m c cX9_isSubtype 3 s av.toArray wsX9_isSubtype RX9 := ⟨hx, hb, hml, hown, hts⟩
  have cw48 : CallB rmX9_isSubtype s av.toArray RX9 48 yX9_has cX9_has 2 (some .boolean) wsX9_has rmX9_has 0 0 2 ∧ (Cond.static yX9_has).before av.toArray s = true := va_cwS 2 hts gX9_isSubtype_X9_has rfl rfl rfl (by decide +kernel) ⟨Nat.le_of_ble_eq_true rfl, Nat.le_of_ble_eq_true rfl⟩
  have cw56 : CallW rmX9_isSubtype s av.toArray RX9 RX9 56 yX9_supers cX9_supers 2 (some .int) wsX9_supers rmX9_supers 0 0 1 := cwV 1 hts gX9_isSubtype_X9_supers rfl rfl rfl (by decide +kernel) ⟨Nat.le_of_ble_eq_true rfl, Nat.le_of_ble_eq_true rfl⟩
  have cw80 : CallW rmX9_isSubtype s av.toArray RX9 RX9 80 yX9_isType cX9_isType 2 (some .boolean) wsX9_isType rmX9_isType 0 0 1 := cwV 1 hts gX9_isSubtype_X9_isType rfl rfl rfl (by decide +kernel) ⟨Nat.le_of_ble_eq_true rfl, Nat.le_of_ble_eq_true rfl⟩
  unfold fX9_isSubtype at h
  refine lv_aload_n hx hb dX9_isSubtype_0 rfl (lv_at hl 0 rfl) ?_
  refine lv_iload_n hx hb dX9_isSubtype_1 rfl (lv_at hl 1 rfl) ?_
  obtain ⟨v1, ev1, h⟩ := bn_some h
  have hs2 : va_P D vwCl (W_z cI cM a_z a_z_s a_z_past a_z_keeps a_z_entryKey a_z_entryDefault a_z_held a_z_values a_z_kinds a_z_news z_s z_past z_pasts z_changed z_entries z_keeps z_entryKey z_entryDefault z_counter z_held z_values z_kinds z_news) _ := hP.sub (ws' := W_z cI cM a_z a_z_s a_z_past a_z_keeps a_z_entryKey a_z_entryDefault a_z_held a_z_values a_z_kinds a_z_news z_s z_past z_pasts z_changed z_entries z_keeps z_entryKey z_entryDefault z_counter z_held z_values z_kinds z_news) [0, 1, 2, 3, 4, 5, 6, 7, 8, 9] rfl
  refine kV (As := [.int x1]) (rest := []) SS hKK (qX9_isType l D cI cM a_z a_z_s a_z_past a_z_keeps a_z_entryKey a_z_entryDefault a_z_held a_z_values a_z_kinds a_z_news z_s z_past z_pasts z_changed z_entries z_keeps z_entryKey z_entryDefault z_counter z_held z_values z_kinds z_news x1 v1 ev1) cw80 hs2 0 9 rfl rfl rfl hl.1 rfl (Nat.le_of_ble_eq_true rfl) dX9_isSubtype_2 ⟨Nat.zero_le _, Nat.zero_le _⟩ ?_
  refine lv_if_eq (tgt := 16) hx hb dX9_isSubtype_5 (by decide) (fun c3 => ?_) (fun c3 => ?_)
  · have h := ifp h c3
    refine lv_iconst (v := (-1)) hx hb dX9_isSubtype_16 (by decide) ?_
    refine lv_goto (tgt := 37) hx hb dX9_isSubtype_17 (by decide) ?_
    exact kRet hx hb hr hlk (Option.some.inj h) dX9_isSubtype_37
  · have h := ifn h c3
    refine lv_aload_n hx hb dX9_isSubtype_8 rfl (lv_at hl 0 rfl) ?_
    refine lv_iload_n hx hb dX9_isSubtype_9 rfl (lv_at hl 2 rfl) ?_
    obtain ⟨v4, ev4, h⟩ := bn_some h
    refine kV (As := [.int x2]) (rest := []) SS hKK (qX9_isType l D cI cM a_z a_z_s a_z_past a_z_keeps a_z_entryKey a_z_entryDefault a_z_held a_z_values a_z_kinds a_z_news z_s z_past z_pasts z_changed z_entries z_keeps z_entryKey z_entryDefault z_counter z_held z_values z_kinds z_news x2 v4 ev4) cw80 hs2 0 9 rfl rfl rfl hl.1 rfl (Nat.le_of_ble_eq_true rfl) dX9_isSubtype_10 ⟨Nat.zero_le _, Nat.zero_le _⟩ ?_
    refine lv_if_ne (tgt := 20) hx hb dX9_isSubtype_13 (by decide) (fun c5 => ?_) (fun c5 => ?_)
    · have h := ifn h c5
      refine lv_aload_n hx hb dX9_isSubtype_20 rfl (lv_at hl 0 rfl) ?_
      refine lv_iload_n hx hb dX9_isSubtype_21 rfl (lv_at hl 1 rfl) ?_
      obtain ⟨v6, ev6, h⟩ := bn_some h
      refine kV (As := [.int x1]) (rest := []) SS hKK (qX9_supers l D cI cM a_z a_z_s a_z_past a_z_keeps a_z_entryKey a_z_entryDefault a_z_held a_z_values a_z_kinds a_z_news z_s z_past z_pasts z_changed z_entries z_keeps z_entryKey z_entryDefault z_counter z_held z_values z_kinds z_news x1 v6 ev6) cw56 hs2 0 9 rfl rfl rfl hl.1 rfl (Nat.le_of_ble_eq_true rfl) dX9_isSubtype_22 ⟨Nat.zero_le _, Nat.zero_le _⟩ ?_
      refine lv_iload_n hx hb dX9_isSubtype_25 rfl (lv_at hl 2 rfl) ?_
      obtain ⟨v7, ev7, h⟩ := bn_some h
      refine kS (As := [.int v6, .int x2]) (rest := []) SS hKK (qX9_has l D cI cM v6 x2 v7 ev7) cw48 va_P_nil rfl hl.1 rfl (Nat.le_of_ble_eq_true rfl) dX9_isSubtype_26 ⟨Nat.zero_le _, Nat.zero_le _⟩ ?_
      refine lv_if_eq (tgt := 36) hx hb dX9_isSubtype_29 (by decide) (fun c8 => ?_) (fun c8 => ?_)
      · have h := ifp h c8
        refine lv_iconst (v := 0) hx hb dX9_isSubtype_36 (by decide) ?_
        exact kRet hx hb hr hlk (Option.some.inj h) dX9_isSubtype_37
      · have h := ifn h c8
        refine lv_iconst (v := 1) hx hb dX9_isSubtype_32 (by decide) ?_
        refine lv_goto (tgt := 37) hx hb dX9_isSubtype_33 (by decide) ?_
        exact kRet hx hb hr hlk (Option.some.inj h) dX9_isSubtype_37
    · have h := ifp h c5
      refine lv_iconst (v := (-1)) hx hb dX9_isSubtype_16 (by decide) ?_
      refine lv_goto (tgt := 37) hx hb dX9_isSubtype_17 (by decide) ?_
      exact kRet hx hb hr hlk (Option.some.inj h) dX9_isSubtype_37
set_option maxHeartbeats 8000000 in
set_option maxRecDepth 100000 in
theorem qX9_family (l : Launch) (D : va_G) (cI cM : ClassId) (a_z a_z_s a_z_past a_z_keeps a_z_entryKey a_z_entryDefault a_z_held a_z_values a_z_kinds a_z_news : Nat) (z_s : Nat → Int32) (z_past : Nat → Int32) (z_pasts : Int32) (z_changed : Int32) (z_entries : Int32) (z_keeps : Nat → Int32) (z_entryKey : Nat → Int32) (z_entryDefault : Nat → Int32) (z_counter : Int32) (z_held : Nat → Int32) (z_values : Nat → Int32) (z_kinds : Nat → Int32) (z_news : Nat → Int32) (x1 : Int32) (r : Int32) (h : fX9_family z_s x1 = some r) : PM l yX9_family wsX9_family rmX9_family D cI cM [.ref a_z, .int x1] (W_z cI cM a_z a_z_s a_z_past a_z_keeps a_z_entryKey a_z_entryDefault a_z_held a_z_values a_z_kinds a_z_news z_s z_past z_pasts z_changed z_entries z_keeps z_entryKey z_entryDefault z_counter z_held z_values z_kinds z_news) r := by
  refine PM.of (cc := cX9_family) (maxL := 2) (ret := (some .int)) (by decide) rfl (Nat.le_of_ble_eq_true rfl) ?_
  intro p e s m below meth c ls hx hb hr hml hown hts hlk hP hKK hl
  have hown : s.vm.findClass RX9 = some m.cls := hown
  have hl : lv_has ls 2 [(0, .ref a_z), (1, .int x1)] := hl
  generalize hav : ([.ref a_z, .int x1] : List Value) = av at hts ⊢
  have SS : CallFix p m c cX9_family 2 s av.toArray wsX9_family RX9 := ⟨hx, hb, hml, hown, hts⟩
  have cw105 : CallW rmX9_family s av.toArray RX9 RX9 105 yX9_isMethod cX9_isMethod 2 (some .boolean) wsX9_isMethod rmX9_isMethod 0 0 1 := cwV 1 hts gX9_family_X9_isMethod rfl rfl rfl (by decide +kernel) ⟨Nat.le_of_ble_eq_true rfl, Nat.le_of_ble_eq_true rfl⟩
  have cw108 : CallW rmX9_family s av.toArray RX9 RX9 108 yX9_familyOf cX9_familyOf 6 (some .int) wsX9_familyOf rmX9_familyOf 0 0 1 := cwV 1 hts gX9_family_X9_familyOf rfl rfl rfl (by decide +kernel) ⟨Nat.le_of_ble_eq_true rfl, Nat.le_of_ble_eq_true rfl⟩
  unfold fX9_family at h
  refine lv_aload_n hx hb dX9_family_0 rfl (lv_at hl 0 rfl) ?_
  refine lv_iload_n hx hb dX9_family_1 rfl (lv_at hl 1 rfl) ?_
  obtain ⟨v1, ev1, h⟩ := bn_some h
  have hs2 : va_P D vwCl (W_z cI cM a_z a_z_s a_z_past a_z_keeps a_z_entryKey a_z_entryDefault a_z_held a_z_values a_z_kinds a_z_news z_s z_past z_pasts z_changed z_entries z_keeps z_entryKey z_entryDefault z_counter z_held z_values z_kinds z_news) _ := hP.sub (ws' := W_z cI cM a_z a_z_s a_z_past a_z_keeps a_z_entryKey a_z_entryDefault a_z_held a_z_values a_z_kinds a_z_news z_s z_past z_pasts z_changed z_entries z_keeps z_entryKey z_entryDefault z_counter z_held z_values z_kinds z_news) [0, 1, 2, 3, 4, 5, 6, 7, 8, 9] rfl
  refine kV (As := [.int x1]) (rest := []) SS hKK (qX9_isMethod l D cI cM a_z a_z_s a_z_past a_z_keeps a_z_entryKey a_z_entryDefault a_z_held a_z_values a_z_kinds a_z_news z_s z_past z_pasts z_changed z_entries z_keeps z_entryKey z_entryDefault z_counter z_held z_values z_kinds z_news x1 v1 ev1) cw105 hs2 0 9 rfl rfl rfl hl.1 rfl (Nat.le_of_ble_eq_true rfl) dX9_family_2 ⟨Nat.zero_le _, Nat.zero_le _⟩ ?_
  refine lv_if_eq (tgt := 16) hx hb dX9_family_5 (by decide) (fun c3 => ?_) (fun c3 => ?_)
  · have h := ifp h c3
    refine lv_iconst (v := (-1)) hx hb dX9_family_16 (by decide) ?_
    exact kRet hx hb hr hlk (Option.some.inj h) dX9_family_17
  · have h := ifn h c3
    refine lv_aload_n hx hb dX9_family_8 rfl (lv_at hl 0 rfl) ?_
    refine lv_iload_n hx hb dX9_family_9 rfl (lv_at hl 1 rfl) ?_
    obtain ⟨v4, ev4, h⟩ := bn_some h
    refine kV (As := [.int x1]) (rest := []) SS hKK (qX9_familyOf l D cI cM a_z a_z_s a_z_past a_z_keeps a_z_entryKey a_z_entryDefault a_z_held a_z_values a_z_kinds a_z_news z_s z_past z_pasts z_changed z_entries z_keeps z_entryKey z_entryDefault z_counter z_held z_values z_kinds z_news x1 v4 ev4) cw108 hs2 0 9 rfl rfl rfl hl.1 rfl (Nat.le_of_ble_eq_true rfl) dX9_family_10 ⟨Nat.zero_le _, Nat.zero_le _⟩ ?_
    refine lv_goto (tgt := 17) hx hb dX9_family_13 (by decide) ?_
    exact kRet hx hb hr hlk (Option.some.inj h) dX9_family_17
set_option maxHeartbeats 8000000 in
set_option maxRecDepth 100000 in
theorem qX9_parameterCount (l : Launch) (D : va_G) (cI cM : ClassId) (a_z a_z_s a_z_past a_z_keeps a_z_entryKey a_z_entryDefault a_z_held a_z_values a_z_kinds a_z_news : Nat) (z_s : Nat → Int32) (z_past : Nat → Int32) (z_pasts : Int32) (z_changed : Int32) (z_entries : Int32) (z_keeps : Nat → Int32) (z_entryKey : Nat → Int32) (z_entryDefault : Nat → Int32) (z_counter : Int32) (z_held : Nat → Int32) (z_values : Nat → Int32) (z_kinds : Nat → Int32) (z_news : Nat → Int32) (x1 : Int32) (r : Int32) (h : fX9_parameterCount z_s x1 = some r) : PM l yX9_parameterCount wsX9_parameterCount rmX9_parameterCount D cI cM [.ref a_z, .int x1] (W_z cI cM a_z a_z_s a_z_past a_z_keeps a_z_entryKey a_z_entryDefault a_z_held a_z_values a_z_kinds a_z_news z_s z_past z_pasts z_changed z_entries z_keeps z_entryKey z_entryDefault z_counter z_held z_values z_kinds z_news) r := by
  refine PM.of (cc := cX9_parameterCount) (maxL := 2) (ret := (some .int)) (by decide) rfl (Nat.le_of_ble_eq_true rfl) ?_
  intro p e s m below meth c ls hx hb hr hml hown hts hlk hP hKK hl
  have hown : s.vm.findClass RX9 = some m.cls := hown
  have hl : lv_has ls 2 [(0, .ref a_z), (1, .int x1)] := hl
  generalize hav : ([.ref a_z, .int x1] : List Value) = av at hts ⊢
  have SS : CallFix p m c cX9_parameterCount 2 s av.toArray wsX9_parameterCount RX9 := ⟨hx, hb, hml, hown, hts⟩
  have cw63 : CallW rmX9_parameterCount s av.toArray RX9 RX9 63 yX9_of cX9_of 3 (some .int) wsX9_of rmX9_of 0 0 2 := cwV 2 hts gX9_parameterCount_X9_of rfl rfl rfl (by decide +kernel) ⟨Nat.le_of_ble_eq_true rfl, Nat.le_of_ble_eq_true rfl⟩
  have cw105 : CallW rmX9_parameterCount s av.toArray RX9 RX9 105 yX9_isMethod cX9_isMethod 2 (some .boolean) wsX9_isMethod rmX9_isMethod 0 0 1 := cwV 1 hts gX9_parameterCount_X9_isMethod rfl rfl rfl (by decide +kernel) ⟨Nat.le_of_ble_eq_true rfl, Nat.le_of_ble_eq_true rfl⟩
  unfold fX9_parameterCount at h
  refine lv_aload_n hx hb dX9_parameterCount_0 rfl (lv_at hl 0 rfl) ?_
  refine lv_iload_n hx hb dX9_parameterCount_1 rfl (lv_at hl 1 rfl) ?_
  obtain ⟨v1, ev1, h⟩ := bn_some h
  have hs2 : va_P D vwCl (W_z cI cM a_z a_z_s a_z_past a_z_keeps a_z_entryKey a_z_entryDefault a_z_held a_z_values a_z_kinds a_z_news z_s z_past z_pasts z_changed z_entries z_keeps z_entryKey z_entryDefault z_counter z_held z_values z_kinds z_news) _ := hP.sub (ws' := W_z cI cM a_z a_z_s a_z_past a_z_keeps a_z_entryKey a_z_entryDefault a_z_held a_z_values a_z_kinds a_z_news z_s z_past z_pasts z_changed z_entries z_keeps z_entryKey z_entryDefault z_counter z_held z_values z_kinds z_news) [0, 1, 2, 3, 4, 5, 6, 7, 8, 9] rfl
  refine kV (As := [.int x1]) (rest := []) SS hKK (qX9_isMethod l D cI cM a_z a_z_s a_z_past a_z_keeps a_z_entryKey a_z_entryDefault a_z_held a_z_values a_z_kinds a_z_news z_s z_past z_pasts z_changed z_entries z_keeps z_entryKey z_entryDefault z_counter z_held z_values z_kinds z_news x1 v1 ev1) cw105 hs2 0 9 rfl rfl rfl hl.1 rfl (Nat.le_of_ble_eq_true rfl) dX9_parameterCount_2 ⟨Nat.zero_le _, Nat.zero_le _⟩ ?_
  refine lv_if_eq (tgt := 17) hx hb dX9_parameterCount_5 (by decide) (fun c3 => ?_) (fun c3 => ?_)
  · have h := ifp h c3
    refine lv_iconst (v := (-1)) hx hb dX9_parameterCount_17 (by decide) ?_
    exact kRet hx hb hr hlk (Option.some.inj h) dX9_parameterCount_18
  · have h := ifn h c3
    refine lv_aload_n hx hb dX9_parameterCount_8 rfl (lv_at hl 0 rfl) ?_
    refine lv_iload_n hx hb dX9_parameterCount_9 rfl (lv_at hl 1 rfl) ?_
    refine lv_iconst (v := 2) hx hb dX9_parameterCount_10 (by decide) ?_
    obtain ⟨v4, ev4, h⟩ := bn_some h
    refine kV (As := [.int x1, .int 2]) (rest := []) SS hKK (qX9_of l D cI cM a_z a_z_s a_z_past a_z_keeps a_z_entryKey a_z_entryDefault a_z_held a_z_values a_z_kinds a_z_news z_s z_past z_pasts z_changed z_entries z_keeps z_entryKey z_entryDefault z_counter z_held z_values z_kinds z_news x1 2 v4 ev4) cw63 hs2 0 9 rfl rfl rfl hl.1 rfl (Nat.le_of_ble_eq_true rfl) dX9_parameterCount_11 ⟨Nat.zero_le _, Nat.zero_le _⟩ ?_
    refine lv_goto (tgt := 18) hx hb dX9_parameterCount_14 (by decide) ?_
    exact kRet hx hb hr hlk (Option.some.inj h) dX9_parameterCount_18
set_option maxHeartbeats 8000000 in
set_option maxRecDepth 100000 in
theorem qX9_parameterKey (l : Launch) (D : va_G) (cI cM : ClassId) (a_z a_z_s a_z_past a_z_keeps a_z_entryKey a_z_entryDefault a_z_held a_z_values a_z_kinds a_z_news : Nat) (z_s : Nat → Int32) (z_past : Nat → Int32) (z_pasts : Int32) (z_changed : Int32) (z_entries : Int32) (z_keeps : Nat → Int32) (z_entryKey : Nat → Int32) (z_entryDefault : Nat → Int32) (z_counter : Int32) (z_held : Nat → Int32) (z_values : Nat → Int32) (z_kinds : Nat → Int32) (z_news : Nat → Int32) (x1 : Int32) (x2 : Int32) (r : Int32) (h : fX9_parameterKey z_s x1 x2 = some r) : PM l yX9_parameterKey wsX9_parameterKey rmX9_parameterKey D cI cM [.ref a_z, .int x1, .int x2] (W_z cI cM a_z a_z_s a_z_past a_z_keeps a_z_entryKey a_z_entryDefault a_z_held a_z_values a_z_kinds a_z_news z_s z_past z_pasts z_changed z_entries z_keeps z_entryKey z_entryDefault z_counter z_held z_values z_kinds z_news) r := by
  refine PM.of (cc := cX9_parameterKey) (maxL := 3) (ret := (some .int)) (by decide) rfl (Nat.le_of_ble_eq_true rfl) ?_
  intro p e s m below meth c ls hx hb hr hml hown hts hlk hP hKK hl
  have hown : s.vm.findClass RX9 = some m.cls := hown
  have hl : lv_has ls 3 [(0, .ref a_z), (1, .int x1), (2, .int x2)] := hl
  generalize hav : ([.ref a_z, .int x1, .int x2] : List Value) = av at hts ⊢
  have SS : CallFix p m c cX9_parameterKey 3 s av.toArray wsX9_parameterKey RX9 := ⟨hx, hb, hml, hown, hts⟩
  have cw44 : CallB rmX9_parameterKey s av.toArray RX9 44 yX9_in cX9_in 3 (some .boolean) wsX9_in rmX9_in 0 0 3 ∧ (Cond.static yX9_in).before av.toArray s = true := va_cwS 3 hts gX9_parameterKey_X9_in rfl rfl rfl (by decide +kernel) ⟨Nat.le_of_ble_eq_true rfl, Nat.le_of_ble_eq_true rfl⟩
  have cw63 : CallW rmX9_parameterKey s av.toArray RX9 RX9 63 yX9_of cX9_of 3 (some .int) wsX9_of rmX9_of 0 0 2 := cwV 2 hts gX9_parameterKey_X9_of rfl rfl rfl (by decide +kernel) ⟨Nat.le_of_ble_eq_true rfl, Nat.le_of_ble_eq_true rfl⟩
  have cw105 : CallW rmX9_parameterKey s av.toArray RX9 RX9 105 yX9_isMethod cX9_isMethod 2 (some .boolean) wsX9_isMethod rmX9_isMethod 0 0 1 := cwV 1 hts gX9_parameterKey_X9_isMethod rfl rfl rfl (by decide +kernel) ⟨Nat.le_of_ble_eq_true rfl, Nat.le_of_ble_eq_true rfl⟩
  unfold fX9_parameterKey at h
  refine lv_aload_n hx hb dX9_parameterKey_0 rfl (lv_at hl 0 rfl) ?_
  refine lv_iload_n hx hb dX9_parameterKey_1 rfl (lv_at hl 1 rfl) ?_
  obtain ⟨v1, ev1, h⟩ := bn_some h
  have hs2 : va_P D vwCl (W_z cI cM a_z a_z_s a_z_past a_z_keeps a_z_entryKey a_z_entryDefault a_z_held a_z_values a_z_kinds a_z_news z_s z_past z_pasts z_changed z_entries z_keeps z_entryKey z_entryDefault z_counter z_held z_values z_kinds z_news) _ := hP.sub (ws' := W_z cI cM a_z a_z_s a_z_past a_z_keeps a_z_entryKey a_z_entryDefault a_z_held a_z_values a_z_kinds a_z_news z_s z_past z_pasts z_changed z_entries z_keeps z_entryKey z_entryDefault z_counter z_held z_values z_kinds z_news) [0, 1, 2, 3, 4, 5, 6, 7, 8, 9] rfl
  refine kV (As := [.int x1]) (rest := []) SS hKK (qX9_isMethod l D cI cM a_z a_z_s a_z_past a_z_keeps a_z_entryKey a_z_entryDefault a_z_held a_z_values a_z_kinds a_z_news z_s z_past z_pasts z_changed z_entries z_keeps z_entryKey z_entryDefault z_counter z_held z_values z_kinds z_news x1 v1 ev1) cw105 hs2 0 9 rfl rfl rfl hl.1 rfl (Nat.le_of_ble_eq_true rfl) dX9_parameterKey_2 ⟨Nat.zero_le _, Nat.zero_le _⟩ ?_
  refine lv_if_eq (tgt := 35) hx hb dX9_parameterKey_5 (by decide) (fun c3 => ?_) (fun c3 => ?_)
  · have h := ifp h c3
    refine lv_iconst (v := (-1)) hx hb dX9_parameterKey_35 (by decide) ?_
    exact kRet hx hb hr hlk (Option.some.inj h) dX9_parameterKey_36
  · have h := ifn h c3
    refine lv_iload_n hx hb dX9_parameterKey_8 rfl (lv_at hl 2 rfl) ?_
    refine lv_iconst (v := 0) hx hb dX9_parameterKey_9 (by decide) ?_
    refine lv_aload_n hx hb dX9_parameterKey_10 rfl (lv_at hl 0 rfl) ?_
    refine lv_iload_n hx hb dX9_parameterKey_11 rfl (lv_at hl 1 rfl) ?_
    refine lv_iconst (v := 2) hx hb dX9_parameterKey_12 (by decide) ?_
    obtain ⟨v4, ev4, h⟩ := bn_some h
    refine kV (As := [.int x1, .int 2]) (rest := [.int 0, .int x2]) SS hKK (qX9_of l D cI cM a_z a_z_s a_z_past a_z_keeps a_z_entryKey a_z_entryDefault a_z_held a_z_values a_z_kinds a_z_news z_s z_past z_pasts z_changed z_entries z_keeps z_entryKey z_entryDefault z_counter z_held z_values z_kinds z_news x1 2 v4 ev4) cw63 hs2 0 9 rfl rfl rfl hl.1 rfl (Nat.le_of_ble_eq_true rfl) dX9_parameterKey_13 ⟨Nat.zero_le _, Nat.zero_le _⟩ ?_
    refine lv_iconst (v := 1) hx hb dX9_parameterKey_16 (by decide) ?_
    refine lv_isub hx hb dX9_parameterKey_17 ?_
    obtain ⟨v5, ev5, h⟩ := bn_some h
    refine kS (As := [.int x2, .int 0, .int (v4 - 1)]) (rest := []) SS hKK (qX9_in l D cI cM x2 0 (v4 - 1) v5 ev5) cw44 va_P_nil rfl hl.1 rfl (Nat.le_of_ble_eq_true rfl) dX9_parameterKey_18 ⟨Nat.zero_le _, Nat.zero_le _⟩ ?_
    refine lv_if_eq (tgt := 35) hx hb dX9_parameterKey_21 (by decide) (fun c6 => ?_) (fun c6 => ?_)
    · have h := ifp h c6
      refine lv_iconst (v := (-1)) hx hb dX9_parameterKey_35 (by decide) ?_
      exact kRet hx hb hr hlk (Option.some.inj h) dX9_parameterKey_36
    · have h := ifn h c6
      refine lv_aload_n hx hb dX9_parameterKey_24 rfl (lv_at hl 0 rfl) ?_
      refine lv_iload_n hx hb dX9_parameterKey_25 rfl (lv_at hl 1 rfl) ?_
      refine lv_iconst (v := 3) hx hb dX9_parameterKey_26 (by decide) ?_
      refine lv_iload_n hx hb dX9_parameterKey_27 rfl (lv_at hl 2 rfl) ?_
      refine lv_iadd hx hb dX9_parameterKey_28 ?_
      obtain ⟨v7, ev7, h⟩ := bn_some h
      refine kV (As := [.int x1, .int (3 + x2)]) (rest := []) SS hKK (qX9_of l D cI cM a_z a_z_s a_z_past a_z_keeps a_z_entryKey a_z_entryDefault a_z_held a_z_values a_z_kinds a_z_news z_s z_past z_pasts z_changed z_entries z_keeps z_entryKey z_entryDefault z_counter z_held z_values z_kinds z_news x1 (3 + x2) v7 ev7) cw63 hs2 0 9 rfl rfl rfl hl.1 rfl (Nat.le_of_ble_eq_true rfl) dX9_parameterKey_29 ⟨Nat.zero_le _, Nat.zero_le _⟩ ?_
      refine lv_goto (tgt := 36) hx hb dX9_parameterKey_32 (by decide) ?_
      exact kRet hx hb hr hlk (Option.some.inj h) dX9_parameterKey_36
set_option maxHeartbeats 8000000 in
set_option maxRecDepth 100000 in
theorem qX9_at (l : Launch) (D : va_G) (cI cM : ClassId) (a_z a_z_s a_z_past a_z_keeps a_z_entryKey a_z_entryDefault a_z_held a_z_values a_z_kinds a_z_news : Nat) (z_s : Nat → Int32) (z_past : Nat → Int32) (z_pasts : Int32) (z_changed : Int32) (z_entries : Int32) (z_keeps : Nat → Int32) (z_entryKey : Nat → Int32) (z_entryDefault : Nat → Int32) (z_counter : Int32) (z_held : Nat → Int32) (z_values : Nat → Int32) (z_kinds : Nat → Int32) (z_news : Nat → Int32) (x1 : Int32) (x2 : Int32) (r : Int32) (h : fX9_at x1 x2 = some r) : PM l yX9_at wsX9_at rmX9_at D cI cM [.ref a_z, .int x1, .int x2] (W_z cI cM a_z a_z_s a_z_past a_z_keeps a_z_entryKey a_z_entryDefault a_z_held a_z_values a_z_kinds a_z_news z_s z_past z_pasts z_changed z_entries z_keeps z_entryKey z_entryDefault z_counter z_held z_values z_kinds z_news) r := by
  refine PM.of (cc := cX9_at) (maxL := 3) (ret := (some .int)) (by decide) rfl (Nat.le_of_ble_eq_true rfl) ?_
  intro p e s m below meth c ls hx hb hr hml hown hts hlk hP hKK hl
  have hown : s.vm.findClass RX9 = some m.cls := hown
  have hl : lv_has ls 3 [(0, .ref a_z), (1, .int x1), (2, .int x2)] := hl
  generalize hav : ([.ref a_z, .int x1, .int x2] : List Value) = av at hts ⊢
  have SS : CallFix p m c cX9_at 3 s av.toArray wsX9_at RX9 := ⟨hx, hb, hml, hown, hts⟩
  unfold fX9_at at h
  refine lv_sipush (v := 235) hx hb dX9_at_0 (by decide) ?_
  refine lv_bipush (v := 29) hx hb dX9_at_3 (by decide) ?_
  refine lv_iload_n hx hb dX9_at_5 rfl (lv_at hl 1 rfl) ?_
  refine lv_imul hx hb dX9_at_6 ?_
  refine lv_iadd hx hb dX9_at_7 ?_
  refine lv_iload_n hx hb dX9_at_8 rfl (lv_at hl 2 rfl) ?_
  refine lv_iadd hx hb dX9_at_9 ?_
  exact kRet hx hb hr hlk (Option.some.inj h) dX9_at_10
set_option maxHeartbeats 8000000 in
set_option maxRecDepth 100000 in
theorem qX9_isCall (l : Launch) (D : va_G) (cI cM : ClassId) (a_z a_z_s a_z_past a_z_keeps a_z_entryKey a_z_entryDefault a_z_held a_z_values a_z_kinds a_z_news : Nat) (z_s : Nat → Int32) (z_past : Nat → Int32) (z_pasts : Int32) (z_changed : Int32) (z_entries : Int32) (z_keeps : Nat → Int32) (z_entryKey : Nat → Int32) (z_entryDefault : Nat → Int32) (z_counter : Int32) (z_held : Nat → Int32) (z_values : Nat → Int32) (z_kinds : Nat → Int32) (z_news : Nat → Int32) (x1 : Int32) (r : Int32) (h : fX9_isCall z_s x1 = some r) : PM l yX9_isCall wsX9_isCall rmX9_isCall D cI cM [.ref a_z, .int x1] (W_z cI cM a_z a_z_s a_z_past a_z_keeps a_z_entryKey a_z_entryDefault a_z_held a_z_values a_z_kinds a_z_news z_s z_past z_pasts z_changed z_entries z_keeps z_entryKey z_entryDefault z_counter z_held z_values z_kinds z_news) r := by
  refine PM.of (cc := cX9_isCall) (maxL := 2) (ret := (some .boolean)) (by decide) rfl (Nat.le_of_ble_eq_true rfl) ?_
  intro p e s m below meth c ls hx hb hr hml hown hts hlk hP hKK hl
  have hown : s.vm.findClass RX9 = some m.cls := hown
  have hl : lv_has ls 2 [(0, .ref a_z), (1, .int x1)] := hl
  generalize hav : ([.ref a_z, .int x1] : List Value) = av at hts ⊢
  have SS : CallFix p m c cX9_isCall 2 s av.toArray wsX9_isCall RX9 := ⟨hx, hb, hml, hown, hts⟩
  have hinX9 : ∀ w ∈ u_ws RX9 TX9 13, w ∈ wsX9_isCall := by decide +kernel
  have lk7 := hts (.fieldLink RX9 7 "SignatureChangerModel" "s" "[I") (List.mem_of_getElem? (i := 1) rfl)
  have cw44 : CallB rmX9_isCall s av.toArray RX9 44 yX9_in cX9_in 3 (some .boolean) wsX9_in rmX9_in 0 0 3 ∧ (Cond.static yX9_in).before av.toArray s = true := va_cwS 3 hts gX9_isCall_X9_in rfl rfl rfl (by decide +kernel) ⟨Nat.le_of_ble_eq_true rfl, Nat.le_of_ble_eq_true rfl⟩
  unfold fX9_isCall at h
  refine lv_iload_n hx hb dX9_isCall_0 rfl (lv_at hl 1 rfl) ?_
  refine lv_iconst (v := 0) hx hb dX9_isCall_1 (by decide) ?_
  refine lv_aload_n hx hb dX9_isCall_2 rfl (lv_at hl 0 rfl) ?_
  refine va_get (D := D) (ci := 9) (v := .ref a_z_s) (C := RX9) (T := TX9) (N := 13) hx hb hts hinX9 hown hKK.1 hP 0 rfl rfl 0 (by decide) lk7 (fun _ h9 => h9) rfl dX9_isCall_3 ?_
  refine lv_sipush (v := 234) hx hb dX9_isCall_6 (by decide) ?_
  obtain ⟨v1, iv1, ev1, h⟩ := rd_some h
  refine kAld hx hb hKK hP 1 rfl iv1 ev1 dX9_isCall_9 ?_
  refine lv_iconst (v := 1) hx hb dX9_isCall_10 (by decide) ?_
  refine lv_isub hx hb dX9_isCall_11 ?_
  obtain ⟨v2, ev2, h⟩ := bn_some h
  refine kS (As := [.int x1, .int 0, .int (v1 - 1)]) (rest := []) SS hKK (qX9_in l D cI cM x1 0 (v1 - 1) v2 ev2) cw44 va_P_nil rfl hl.1 rfl (Nat.le_of_ble_eq_true rfl) dX9_isCall_12 ⟨Nat.zero_le _, Nat.zero_le _⟩ ?_
  exact kRetZ hx hb hr hlk (rb_some h).2 (rb_some h).1 dX9_isCall_15
set_option maxHeartbeats 8000000 in
set_option maxRecDepth 100000 in
theorem qX9_isFrozen (l : Launch) (D : va_G) (cI cM : ClassId) (a_z a_z_s a_z_past a_z_keeps a_z_entryKey a_z_entryDefault a_z_held a_z_values a_z_kinds a_z_news : Nat) (z_s : Nat → Int32) (z_past : Nat → Int32) (z_pasts : Int32) (z_changed : Int32) (z_entries : Int32) (z_keeps : Nat → Int32) (z_entryKey : Nat → Int32) (z_entryDefault : Nat → Int32) (z_counter : Int32) (z_held : Nat → Int32) (z_values : Nat → Int32) (z_kinds : Nat → Int32) (z_news : Nat → Int32) (x1 : Int32) (r : Int32) (h : fX9_isFrozen z_s x1 = some r) : PM l yX9_isFrozen wsX9_isFrozen rmX9_isFrozen D cI cM [.ref a_z, .int x1] (W_z cI cM a_z a_z_s a_z_past a_z_keeps a_z_entryKey a_z_entryDefault a_z_held a_z_values a_z_kinds a_z_news z_s z_past z_pasts z_changed z_entries z_keeps z_entryKey z_entryDefault z_counter z_held z_values z_kinds z_news) r := by
  refine PM.of (cc := cX9_isFrozen) (maxL := 2) (ret := (some .boolean)) (by decide) rfl (Nat.le_of_ble_eq_true rfl) ?_
  intro p e s m below meth c ls hx hb hr hml hown hts hlk hP hKK hl
  have hown : s.vm.findClass RX9 = some m.cls := hown
  have hl : lv_has ls 2 [(0, .ref a_z), (1, .int x1)] := hl
  generalize hav : ([.ref a_z, .int x1] : List Value) = av at hts ⊢
  have SS : CallFix p m c cX9_isFrozen 2 s av.toArray wsX9_isFrozen RX9 := ⟨hx, hb, hml, hown, hts⟩
  have hinX9 : ∀ w ∈ u_ws RX9 TX9 13, w ∈ wsX9_isFrozen := by decide +kernel
  have lk7 := hts (.fieldLink RX9 7 "SignatureChangerModel" "s" "[I") (List.mem_of_getElem? (i := 1) rfl)
  have cw111 : CallW rmX9_isFrozen s av.toArray RX9 RX9 111 yX9_at cX9_at 3 (some .int) wsX9_at rmX9_at 0 0 2 := cwV 2 hts gX9_isFrozen_X9_at rfl rfl rfl (by decide +kernel) ⟨Nat.le_of_ble_eq_true rfl, Nat.le_of_ble_eq_true rfl⟩
  unfold fX9_isFrozen at h
  refine lv_aload_n hx hb dX9_isFrozen_0 rfl (lv_at hl 0 rfl) ?_
  refine va_get (D := D) (ci := 9) (v := .ref a_z_s) (C := RX9) (T := TX9) (N := 13) hx hb hts hinX9 hown hKK.1 hP 0 rfl rfl 0 (by decide) lk7 (fun _ h9 => h9) rfl dX9_isFrozen_1 ?_
  refine lv_aload_n hx hb dX9_isFrozen_4 rfl (lv_at hl 0 rfl) ?_
  refine lv_iload_n hx hb dX9_isFrozen_5 rfl (lv_at hl 1 rfl) ?_
  refine lv_iconst (v := 3) hx hb dX9_isFrozen_6 (by decide) ?_
  obtain ⟨v1, ev1, h⟩ := bn_some h
  have hs2 : va_P D vwCl (W_z cI cM a_z a_z_s a_z_past a_z_keeps a_z_entryKey a_z_entryDefault a_z_held a_z_values a_z_kinds a_z_news z_s z_past z_pasts z_changed z_entries z_keeps z_entryKey z_entryDefault z_counter z_held z_values z_kinds z_news) _ := hP.sub (ws' := W_z cI cM a_z a_z_s a_z_past a_z_keeps a_z_entryKey a_z_entryDefault a_z_held a_z_values a_z_kinds a_z_news z_s z_past z_pasts z_changed z_entries z_keeps z_entryKey z_entryDefault z_counter z_held z_values z_kinds z_news) [0, 1, 2, 3, 4, 5, 6, 7, 8, 9] rfl
  refine kV (As := [.int x1, .int 3]) (rest := [.ref a_z_s]) SS hKK (qX9_at l D cI cM a_z a_z_s a_z_past a_z_keeps a_z_entryKey a_z_entryDefault a_z_held a_z_values a_z_kinds a_z_news z_s z_past z_pasts z_changed z_entries z_keeps z_entryKey z_entryDefault z_counter z_held z_values z_kinds z_news x1 3 v1 ev1) cw111 hs2 0 9 rfl rfl rfl hl.1 rfl (Nat.le_of_ble_eq_true rfl) dX9_isFrozen_7 ⟨Nat.zero_le _, Nat.zero_le _⟩ ?_
  obtain ⟨v3, iv3, ev3, h⟩ := rd_some h
  refine kAld hx hb hKK hP 1 rfl iv3 ev3 dX9_isFrozen_10 ?_
  refine lv_iconst (v := 1) hx hb dX9_isFrozen_11 (by decide) ?_
  refine lv_icmp_ne (tgt := 19) hx hb dX9_isFrozen_12 (by decide) (fun c4 => ?_) (fun c4 => ?_)
  · have h := ifn h c4
    refine lv_iconst (v := 0) hx hb dX9_isFrozen_19 (by decide) ?_
    exact kRetZ hx hb hr hlk rfl (Option.some.inj h) dX9_isFrozen_20
  · have h := ifp h c4
    refine lv_iconst (v := 1) hx hb dX9_isFrozen_15 (by decide) ?_
    refine lv_goto (tgt := 20) hx hb dX9_isFrozen_16 (by decide) ?_
    exact kRetZ hx hb hr hlk rfl (Option.some.inj h) dX9_isFrozen_20
set_option maxHeartbeats 8000000 in
set_option maxRecDepth 100000 in
theorem qX9_targetOf (l : Launch) (D : va_G) (cI cM : ClassId) (a_z a_z_s a_z_past a_z_keeps a_z_entryKey a_z_entryDefault a_z_held a_z_values a_z_kinds a_z_news : Nat) (z_s : Nat → Int32) (z_past : Nat → Int32) (z_pasts : Int32) (z_changed : Int32) (z_entries : Int32) (z_keeps : Nat → Int32) (z_entryKey : Nat → Int32) (z_entryDefault : Nat → Int32) (z_counter : Int32) (z_held : Nat → Int32) (z_values : Nat → Int32) (z_kinds : Nat → Int32) (z_news : Nat → Int32) (x1 : Int32) (x2 : Int32) (x3 : Int32) (r : Int32) (h : fX9_targetOf z_s x1 x2 x3 = some r) : PM l yX9_targetOf wsX9_targetOf rmX9_targetOf D cI cM [.ref a_z, .int x1, .int x2, .int x3] (W_z cI cM a_z a_z_s a_z_past a_z_keeps a_z_entryKey a_z_entryDefault a_z_held a_z_values a_z_kinds a_z_news z_s z_past z_pasts z_changed z_entries z_keeps z_entryKey z_entryDefault z_counter z_held z_values z_kinds z_news) r := by
  refine PM.of (cc := cX9_targetOf) (maxL := 5) (ret := (some .int)) (by decide) rfl (Nat.le_of_ble_eq_true rfl) ?_
  intro p e s m below meth c ls hx hb hr hml hown hts hlk hP hKK hl
  have hown : s.vm.findClass RX9 = some m.cls := hown
  have hl : lv_has ls 5 [(0, .ref a_z), (1, .int x1), (2, .int x2), (3, .int x3)] := hl
  generalize hav : ([.ref a_z, .int x1, .int x2, .int x3] : List Value) = av at hts ⊢
  have SS : CallFix p m c cX9_targetOf 5 s av.toArray wsX9_targetOf RX9 := ⟨hx, hb, hml, hown, hts⟩
  have hinX9 : ∀ w ∈ u_ws RX9 TX9 13, w ∈ wsX9_targetOf := by decide +kernel
  have lk7 := hts (.fieldLink RX9 7 "SignatureChangerModel" "s" "[I") (List.mem_of_getElem? (i := 1) rfl)
  have cw48 : CallB rmX9_targetOf s av.toArray RX9 48 yX9_has cX9_has 2 (some .boolean) wsX9_has rmX9_has 0 0 2 ∧ (Cond.static yX9_has).before av.toArray s = true := va_cwS 2 hts gX9_targetOf_X9_has rfl rfl rfl (by decide +kernel) ⟨Nat.le_of_ble_eq_true rfl, Nat.le_of_ble_eq_true rfl⟩
  have cw56 : CallW rmX9_targetOf s av.toArray RX9 RX9 56 yX9_supers cX9_supers 2 (some .int) wsX9_supers rmX9_supers 0 0 1 := cwV 1 hts gX9_targetOf_X9_supers rfl rfl rfl (by decide +kernel) ⟨Nat.le_of_ble_eq_true rfl, Nat.le_of_ble_eq_true rfl⟩
  have cw63 : CallW rmX9_targetOf s av.toArray RX9 RX9 63 yX9_of cX9_of 3 (some .int) wsX9_of rmX9_of 0 0 2 := cwV 2 hts gX9_targetOf_X9_of rfl rfl rfl (by decide +kernel) ⟨Nat.le_of_ble_eq_true rfl, Nat.le_of_ble_eq_true rfl⟩
  have cw67 : CallW rmX9_targetOf s av.toArray RX9 RX9 67 yX9_isNamed cX9_isNamed 4 (some .boolean) wsX9_isNamed rmX9_isNamed 0 0 3 := cwV 3 hts gX9_targetOf_X9_isNamed rfl rfl rfl (by decide +kernel) ⟨Nat.le_of_ble_eq_true rfl, Nat.le_of_ble_eq_true rfl⟩
  have F3 : ∀ (n : Nat) (y1 : Int32) (y2 : Int32) (y3 : Int32) (y4 : Int32), lX9_targetOf_3 z_s n y1 y2 y3 y4 = some r → ∀ ls : Array Slot, lv_has ls 5 [(0, .ref a_z), (1, .int y1), (2, .int y2), (3, .int y3), (4, .int y4)] → WP p l e rmX9_targetOf s m av below meth c r 3 ls [] := by
    intro n
    induction n with
    | zero => intro y1 y2 y3 y4 h; exact no_some h
    | succ n ih =>
      intro y1 y2 y3 y4 h ls hl
      rw [lX9_targetOf_3_s] at h
      refine lv_iload hx hb dX9_targetOf_3 (lv_at hl 4 rfl) ?_
      refine lv_aload_n hx hb dX9_targetOf_5 rfl (lv_at hl 0 rfl) ?_
      refine va_get (D := D) (ci := 9) (v := .ref a_z_s) (C := RX9) (T := TX9) (N := 13) hx hb hts hinX9 hown hKK.1 hP 0 rfl rfl 0 (by decide) lk7 (fun _ h9 => h9) rfl dX9_targetOf_6 ?_
      refine lv_bipush (v := 25) hx hb dX9_targetOf_9 (by decide) ?_
      obtain ⟨v1, iv1, ev1, h⟩ := rd_some h
      refine kAld hx hb hKK hP 1 rfl iv1 ev1 dX9_targetOf_11 ?_
      refine lv_icmp_ge (tgt := 53) hx hb dX9_targetOf_12 (by decide) (fun c2 => ?_) (fun c2 => ?_)
      · have h := ifp h c2
        refine lv_bipush (v := (-9)) hx hb dX9_targetOf_53 (by decide) ?_
        exact kRet hx hb hr hlk (Option.some.inj h) dX9_targetOf_55
      · have h := ifn h c2
        refine lv_aload_n hx hb dX9_targetOf_15 rfl (lv_at hl 0 rfl) ?_
        refine lv_iload hx hb dX9_targetOf_16 (lv_at hl 4 rfl) ?_
        refine lv_iload_n hx hb dX9_targetOf_18 rfl (lv_at hl 2 rfl) ?_
        refine lv_iload_n hx hb dX9_targetOf_19 rfl (lv_at hl 3 rfl) ?_
        obtain ⟨v3, ev3, h⟩ := bn_some h
        have hs4 : va_P D vwCl (W_z cI cM a_z a_z_s a_z_past a_z_keeps a_z_entryKey a_z_entryDefault a_z_held a_z_values a_z_kinds a_z_news z_s z_past z_pasts z_changed z_entries z_keeps z_entryKey z_entryDefault z_counter z_held z_values z_kinds z_news) _ := hP.sub (ws' := W_z cI cM a_z a_z_s a_z_past a_z_keeps a_z_entryKey a_z_entryDefault a_z_held a_z_values a_z_kinds a_z_news z_s z_past z_pasts z_changed z_entries z_keeps z_entryKey z_entryDefault z_counter z_held z_values z_kinds z_news) [0, 1, 2, 3, 4, 5, 6, 7, 8, 9] rfl
        refine kV (As := [.int y4, .int y2, .int y3]) (rest := []) SS hKK (qX9_isNamed l D cI cM a_z a_z_s a_z_past a_z_keeps a_z_entryKey a_z_entryDefault a_z_held a_z_values a_z_kinds a_z_news z_s z_past z_pasts z_changed z_entries z_keeps z_entryKey z_entryDefault z_counter z_held z_values z_kinds z_news y4 y2 y3 v3 ev3) cw67 hs4 0 9 rfl rfl rfl hl.1 rfl (Nat.le_of_ble_eq_true rfl) dX9_targetOf_20 ⟨Nat.zero_le _, Nat.zero_le _⟩ ?_
        refine lv_if_eq (tgt := 47) hx hb dX9_targetOf_23 (by decide) (fun c5 => ?_) (fun c5 => ?_)
        · have h := ifp h c5
          refine lv_iinc (v := y4 + 1) (lv' := [(4, .int (y4 + 1)), (0, .ref a_z), (1, .int y1), (2, .int y2), (3, .int y3)]) hx hb dX9_targetOf_47 hl (k := 4) rfl rfl (by decide) rfl (fun ls hl => ?_)
          refine lv_goto (tgt := 3) hx hb dX9_targetOf_50 (by decide) ?_
          exact ih y1 y2 y3 (y4 + 1) h ls (lv_sub (l' := [(0, .ref a_z), (1, .int y1), (2, .int y2), (3, .int y3), (4, .int (y4 + 1))]) hl [1, 2, 3, 4, 0] rfl)
        · have h := ifn h c5
          refine lv_aload_n hx hb dX9_targetOf_26 rfl (lv_at hl 0 rfl) ?_
          refine lv_iload_n hx hb dX9_targetOf_27 rfl (lv_at hl 1 rfl) ?_
          obtain ⟨v6, ev6, h⟩ := bn_some h
          refine kV (As := [.int y1]) (rest := []) SS hKK (qX9_supers l D cI cM a_z a_z_s a_z_past a_z_keeps a_z_entryKey a_z_entryDefault a_z_held a_z_values a_z_kinds a_z_news z_s z_past z_pasts z_changed z_entries z_keeps z_entryKey z_entryDefault z_counter z_held z_values z_kinds z_news y1 v6 ev6) cw56 hs4 0 9 rfl rfl rfl hl.1 rfl (Nat.le_of_ble_eq_true rfl) dX9_targetOf_28 ⟨Nat.zero_le _, Nat.zero_le _⟩ ?_
          refine lv_aload_n hx hb dX9_targetOf_31 rfl (lv_at hl 0 rfl) ?_
          refine lv_iload hx hb dX9_targetOf_32 (lv_at hl 4 rfl) ?_
          refine lv_iconst (v := 0) hx hb dX9_targetOf_34 (by decide) ?_
          obtain ⟨v7, ev7, h⟩ := bn_some h
          refine kV (As := [.int y4, .int 0]) (rest := [.int v6]) SS hKK (qX9_of l D cI cM a_z a_z_s a_z_past a_z_keeps a_z_entryKey a_z_entryDefault a_z_held a_z_values a_z_kinds a_z_news z_s z_past z_pasts z_changed z_entries z_keeps z_entryKey z_entryDefault z_counter z_held z_values z_kinds z_news y4 0 v7 ev7) cw63 hs4 0 9 rfl rfl rfl hl.1 rfl (Nat.le_of_ble_eq_true rfl) dX9_targetOf_35 ⟨Nat.zero_le _, Nat.zero_le _⟩ ?_
          obtain ⟨v8, ev8, h⟩ := bn_some h
          refine kS (As := [.int v6, .int v7]) (rest := []) SS hKK (qX9_has l D cI cM v6 v7 v8 ev8) cw48 va_P_nil rfl hl.1 rfl (Nat.le_of_ble_eq_true rfl) dX9_targetOf_38 ⟨Nat.zero_le _, Nat.zero_le _⟩ ?_
          refine lv_if_eq (tgt := 47) hx hb dX9_targetOf_41 (by decide) (fun c9 => ?_) (fun c9 => ?_)
          · have h := ifp h c9
            refine lv_iinc (v := y4 + 1) (lv' := [(4, .int (y4 + 1)), (0, .ref a_z), (1, .int y1), (2, .int y2), (3, .int y3)]) hx hb dX9_targetOf_47 hl (k := 4) rfl rfl (by decide) rfl (fun ls hl => ?_)
            refine lv_goto (tgt := 3) hx hb dX9_targetOf_50 (by decide) ?_
            exact ih y1 y2 y3 (y4 + 1) h ls (lv_sub (l' := [(0, .ref a_z), (1, .int y1), (2, .int y2), (3, .int y3), (4, .int (y4 + 1))]) hl [1, 2, 3, 4, 0] rfl)
          · have h := ifn h c9
            refine lv_iload hx hb dX9_targetOf_44 (lv_at hl 4 rfl) ?_
            exact kRet hx hb hr hlk (Option.some.inj h) dX9_targetOf_46
  unfold fX9_targetOf at h
  refine lv_iconst (v := 0) hx hb dX9_targetOf_0 (by decide) ?_
  refine lv_istore (lv' := [(4, .int 0), (0, .ref a_z), (1, .int x1), (2, .int x2), (3, .int x3)]) hx hb dX9_targetOf_1 hl (by decide) rfl (fun ls hl => ?_)
  exact F3 5000 x1 x2 x3 0 h ls (lv_sub (l' := [(0, .ref a_z), (1, .int x1), (2, .int x2), (3, .int x3), (4, .int 0)]) hl [1, 2, 3, 4, 0] rfl)
set_option maxHeartbeats 8000000 in
set_option maxRecDepth 100000 in
theorem qX9_declareCall (l : Launch) (D : va_G) (cI cM : ClassId) (a_z a_z_s a_z_past a_z_keeps a_z_entryKey a_z_entryDefault a_z_held a_z_values a_z_kinds a_z_news : Nat) (z_s : Nat → Int32) (z_past : Nat → Int32) (z_pasts : Int32) (z_changed : Int32) (z_entries : Int32) (z_keeps : Nat → Int32) (z_entryKey : Nat → Int32) (z_entryDefault : Nat → Int32) (z_counter : Int32) (z_held : Nat → Int32) (z_values : Nat → Int32) (z_kinds : Nat → Int32) (z_news : Nat → Int32) (x1 : Int32) (x2 : Int32) (x3 : Int32) (x4 : Int32) (r : Int32) (r_z_s : Nat → Int32) (r_z_past : Nat → Int32) (r_z_pasts : Int32) (r_z_changed : Int32) (h : fX9_declareCall z_s z_past z_pasts z_changed x1 x2 x3 x4 = some (r, r_z_s, r_z_past, r_z_pasts, r_z_changed)) : IM l yX9_declareCall wsX9_declareCall rmX9_declareCall D cI cM [.ref a_z, .int x1, .int x2, .int x3, .int x4] (W_z cI cM a_z a_z_s a_z_past a_z_keeps a_z_entryKey a_z_entryDefault a_z_held a_z_values a_z_kinds a_z_news z_s z_past z_pasts z_changed z_entries z_keeps z_entryKey z_entryDefault z_counter z_held z_values z_kinds z_news) (W_z cI cM a_z a_z_s a_z_past a_z_keeps a_z_entryKey a_z_entryDefault a_z_held a_z_values a_z_kinds a_z_news r_z_s r_z_past r_z_pasts r_z_changed z_entries z_keeps z_entryKey z_entryDefault z_counter z_held z_values z_kinds z_news) (some (.int r)) := by
  refine IM.of (cc := cX9_declareCall) (maxL := 8) (ret := (some .int)) (by decide) rfl (Nat.le_of_ble_eq_true rfl) ?_
  intro p e s m below meth c ls hx hb hr hml hown hts hlk hKK hP hD hS hl
  have hown : s.vm.findClass RX9 = some m.cls := hown
  have hl : lv_has ls 8 [(0, .ref a_z), (1, .int x1), (2, .int x2), (3, .int x3), (4, .int x4)] := hl
  generalize hav : ([.ref a_z, .int x1, .int x2, .int x3, .int x4] : List Value) = av at hts ⊢
  generalize hw1 : W_z cI cM a_z a_z_s a_z_past a_z_keeps a_z_entryKey a_z_entryDefault a_z_held a_z_values a_z_kinds a_z_news r_z_s r_z_past r_z_pasts r_z_changed z_entries z_keeps z_entryKey z_entryDefault z_counter z_held z_values z_kinds z_news = w1
  generalize hw0 : W_z cI cM a_z a_z_s a_z_past a_z_keeps a_z_entryKey a_z_entryDefault a_z_held a_z_values a_z_kinds a_z_news z_s z_past z_pasts z_changed z_entries z_keeps z_entryKey z_entryDefault z_counter z_held z_values z_kinds z_news = w0 at hD hS ⊢
  have hP : va_P D vwCl (W_z cI cM a_z a_z_s a_z_past a_z_keeps a_z_entryKey a_z_entryDefault a_z_held a_z_values a_z_kinds a_z_news z_s z_past z_pasts z_changed z_entries z_keeps z_entryKey z_entryDefault z_counter z_held z_values z_kinds z_news) s.heap := hP
  have hD : va_D (fun q => q ∈ w0.map (·.1)) (W_z cI cM a_z a_z_s a_z_past a_z_keeps a_z_entryKey a_z_entryDefault a_z_held a_z_values a_z_kinds a_z_news z_s z_past z_pasts z_changed z_entries z_keeps z_entryKey z_entryDefault z_counter z_held z_values z_kinds z_news) := by rw [hw0]; exact hD
  have SS : CallFix p m c cX9_declareCall 8 s av.toArray wsX9_declareCall RX9 := ⟨hx, hb, hml, hown, hts⟩
  have hinX9 : ∀ w ∈ u_ws RX9 TX9 13, w ∈ wsX9_declareCall := by decide +kernel
  have lk7 := hts (.fieldLink RX9 7 "SignatureChangerModel" "s" "[I") (List.mem_of_getElem? (i := 1) rfl)
  have cw44 : CallB rmX9_declareCall s av.toArray RX9 44 yX9_in cX9_in 3 (some .boolean) wsX9_in rmX9_in 0 0 3 ∧ (Cond.static yX9_in).before av.toArray s = true := va_cwS 3 hts gX9_declareCall_X9_in rfl rfl rfl (by decide +kernel) ⟨Nat.le_of_ble_eq_true rfl, Nat.le_of_ble_eq_true rfl⟩
  have cw48 : CallB rmX9_declareCall s av.toArray RX9 48 yX9_has cX9_has 2 (some .boolean) wsX9_has rmX9_has 0 0 2 ∧ (Cond.static yX9_has).before av.toArray s = true := va_cwS 2 hts gX9_declareCall_X9_has rfl rfl rfl (by decide +kernel) ⟨Nat.le_of_ble_eq_true rfl, Nat.le_of_ble_eq_true rfl⟩
  have cw56 : CallW rmX9_declareCall s av.toArray RX9 RX9 56 yX9_supers cX9_supers 2 (some .int) wsX9_supers rmX9_supers 0 0 1 := cwV 1 hts gX9_declareCall_X9_supers rfl rfl rfl (by decide +kernel) ⟨Nat.le_of_ble_eq_true rfl, Nat.le_of_ble_eq_true rfl⟩
  have cw59 : CallW rmX9_declareCall s av.toArray RX9 RX9 59 yX9_isInterface cX9_isInterface 2 (some .boolean) wsX9_isInterface rmX9_isInterface 0 0 1 := cwV 1 hts gX9_declareCall_X9_isInterface rfl rfl rfl (by decide +kernel) ⟨Nat.le_of_ble_eq_true rfl, Nat.le_of_ble_eq_true rfl⟩
  have cw63 : CallW rmX9_declareCall s av.toArray RX9 RX9 63 yX9_of cX9_of 3 (some .int) wsX9_of rmX9_of 0 0 2 := cwV 2 hts gX9_declareCall_X9_of rfl rfl rfl (by decide +kernel) ⟨Nat.le_of_ble_eq_true rfl, Nat.le_of_ble_eq_true rfl⟩
  have cw80 : CallW rmX9_declareCall s av.toArray RX9 RX9 80 yX9_isType cX9_isType 2 (some .boolean) wsX9_isType rmX9_isType 0 0 1 := cwV 1 hts gX9_declareCall_X9_isType rfl rfl rfl (by decide +kernel) ⟨Nat.le_of_ble_eq_true rfl, Nat.le_of_ble_eq_true rfl⟩
  have cw86 : CallW rmX9_declareCall s av.toArray RX9 RX9 86 yX9_edit cX9_edit 2 none wsX9_edit rmX9_edit 0 0 0 := cwV 0 hts gX9_declareCall_X9_edit rfl rfl rfl (by decide +kernel) ⟨Nat.le_of_ble_eq_true rfl, Nat.le_of_ble_eq_true rfl⟩
  have cw111 : CallW rmX9_declareCall s av.toArray RX9 RX9 111 yX9_at cX9_at 3 (some .int) wsX9_at rmX9_at 0 0 2 := cwV 2 hts gX9_declareCall_X9_at rfl rfl rfl (by decide +kernel) ⟨Nat.le_of_ble_eq_true rfl, Nat.le_of_ble_eq_true rfl⟩
  have cw114 : CallW rmX9_declareCall s av.toArray RX9 RX9 114 yX9_targetOf cX9_targetOf 5 (some .int) wsX9_targetOf rmX9_targetOf 0 0 3 := cwV 3 hts gX9_declareCall_X9_targetOf rfl rfl rfl (by decide +kernel) ⟨Nat.le_of_ble_eq_true rfl, Nat.le_of_ble_eq_true rfl⟩
  have F194 : ∀ (n : Nat) (H : Heap) (locs : List Loc) (z_s : Nat → Int32) (z_past : Nat → Int32) (z_pasts : Int32) (z_changed : Int32) (y4 : Int32) (y5 : Int32) (y6 : Int32) (y7 : Int32), lX9_declareCall_194  n z_s z_past z_pasts z_changed y4 y5 y6 y7 = some (r, r_z_s, r_z_past, r_z_pasts, r_z_changed) → va_P D vwCl (W_z cI cM a_z a_z_s a_z_past a_z_keeps a_z_entryKey a_z_entryDefault a_z_held a_z_values a_z_kinds a_z_news z_s z_past z_pasts z_changed z_entries z_keeps z_entryKey z_entryDefault z_counter z_held z_values z_kinds z_news) H → va_D (fun q => q ∈ (w0).map (·.1)) (W_z cI cM a_z a_z_s a_z_past a_z_keeps a_z_entryKey a_z_entryDefault a_z_held a_z_values a_z_kinds a_z_news z_s z_past z_pasts z_changed z_entries z_keeps z_entryKey z_entryDefault z_counter z_held z_values z_kinds z_news) → va_S (fun q => q ∈ (w0).map (·.1)) s.heap H locs → ∀ ls : Array Slot, lv_has ls 8 [(0, .ref a_z), (4, .int y4), (5, .int y5), (6, .int y6), (7, .int y7)] → WI p l e rmX9_declareCall s m av below meth c D w0 w1 (some (.int r)) H locs 194 ls [] := by
    intro n
    induction n with
    | zero => intro H locs z_s z_past z_pasts z_changed y4 y5 y6 y7 h; exact no_some h
    | succ n ih =>
      intro H locs z_s z_past z_pasts z_changed y4 y5 y6 y7 h hP hD hS ls hl
      rw [lX9_declareCall_194_s] at h
      refine lv_iload hx hb dX9_declareCall_194 (lv_at hl 4 rfl) ?_
      refine lv_iload hx hb dX9_declareCall_196 (lv_at hl 1 rfl) ?_
      refine lv_icmp_ge (tgt := 233) hx hb dX9_declareCall_198 (by decide) (fun c1 => ?_) (fun c1 => ?_)
      · have h := ifp h c1
        refine lv_aload_n hx hb dX9_declareCall_233 rfl (lv_at hl 0 rfl) ?_
        refine va_get (D := D) (ci := 9) (v := .ref a_z_s) (C := RX9) (T := TX9) (N := 13) hx hb hts hinX9 hown hKK.1 hP 0 rfl rfl 0 (by decide) lk7 (fun _ h9 => h9) rfl dX9_declareCall_234 ?_
        refine lv_sipush (v := 234) hx hb dX9_declareCall_237 (by decide) ?_
        refine lv_dup2_11 hx hb dX9_declareCall_240 rfl rfl ?_
        obtain ⟨v2, iv2, ev2, h⟩ := rd_some h
        refine kAld hx hb hKK hP 1 rfl iv2 ev2 dX9_declareCall_241 ?_
        refine lv_iconst (v := 1) hx hb dX9_declareCall_242 (by decide) ?_
        refine lv_iadd hx hb dX9_declareCall_243 ?_
        obtain ⟨g3, ig3, eg3, h⟩ := wr_some h
        refine kAst hx hb hKK hP hD hS 1 rfl ig3 eg3 dX9_declareCall_244 (fun H locs hP hD hS => ?_)
        have hP : va_P D vwCl (W_z cI cM a_z a_z_s a_z_past a_z_keeps a_z_entryKey a_z_entryDefault a_z_held a_z_values a_z_kinds a_z_news g3 z_past z_pasts z_changed z_entries z_keeps z_entryKey z_entryDefault z_counter z_held z_values z_kinds z_news) H := hP
        have hD : va_D _ (W_z cI cM a_z a_z_s a_z_past a_z_keeps a_z_entryKey a_z_entryDefault a_z_held a_z_values a_z_kinds a_z_news g3 z_past z_pasts z_changed z_entries z_keeps z_entryKey z_entryDefault z_counter z_held z_values z_kinds z_news) := hD
        refine lv_iload hx hb dX9_declareCall_245 (lv_at hl 3 rfl) ?_
        simp only [Option.some.injEq, Prod.mk.injEq] at h
        obtain ⟨e0, e1, e2, e3, e4⟩ := h
        exact kRetI hx hb hr hlk e0 (by rw [← hw1, ← e1, ← e2, ← e3, ← e4]; exact hP) hS dX9_declareCall_247
      · have h := ifn h c1
        refine lv_aload_n hx hb dX9_declareCall_201 rfl (lv_at hl 0 rfl) ?_
        refine va_get (D := D) (ci := 9) (v := .ref a_z_s) (C := RX9) (T := TX9) (N := 13) hx hb hts hinX9 hown hKK.1 hP 0 rfl rfl 0 (by decide) lk7 (fun _ h9 => h9) rfl dX9_declareCall_202 ?_
        refine lv_aload_n hx hb dX9_declareCall_205 rfl (lv_at hl 0 rfl) ?_
        refine lv_iload hx hb dX9_declareCall_206 (lv_at hl 3 rfl) ?_
        refine lv_bipush (v := 15) hx hb dX9_declareCall_208 (by decide) ?_
        refine lv_iload hx hb dX9_declareCall_210 (lv_at hl 4 rfl) ?_
        refine lv_iadd hx hb dX9_declareCall_212 ?_
        obtain ⟨v4, ev4, h⟩ := bn_some h
        have hs5 : va_P D vwCl (W_z cI cM a_z a_z_s a_z_past a_z_keeps a_z_entryKey a_z_entryDefault a_z_held a_z_values a_z_kinds a_z_news z_s z_past z_pasts z_changed z_entries z_keeps z_entryKey z_entryDefault z_counter z_held z_values z_kinds z_news) _ := hP.sub (ws' := W_z cI cM a_z a_z_s a_z_past a_z_keeps a_z_entryKey a_z_entryDefault a_z_held a_z_values a_z_kinds a_z_news z_s z_past z_pasts z_changed z_entries z_keeps z_entryKey z_entryDefault z_counter z_held z_values z_kinds z_news) [0, 1, 2, 3, 4, 5, 6, 7, 8, 9] rfl
        refine kV (As := [.int y6, .int (15 + y7)]) (rest := [.ref a_z_s]) SS hKK (qX9_at l D cI cM a_z a_z_s a_z_past a_z_keeps a_z_entryKey a_z_entryDefault a_z_held a_z_values a_z_kinds a_z_news z_s z_past z_pasts z_changed z_entries z_keeps z_entryKey z_entryDefault z_counter z_held z_values z_kinds z_news y6 (15 + y7) v4 ev4) cw111 hs5 0 9 rfl rfl rfl hl.1 rfl (Nat.le_of_ble_eq_true rfl) dX9_declareCall_213 ⟨Nat.zero_le _, Nat.zero_le _⟩ ?_
        refine lv_aload_n hx hb dX9_declareCall_216 rfl (lv_at hl 0 rfl) ?_
        refine lv_iload hx hb dX9_declareCall_217 (lv_at hl 2 rfl) ?_
        refine lv_iconst (v := 3) hx hb dX9_declareCall_219 (by decide) ?_
        refine lv_iload hx hb dX9_declareCall_220 (lv_at hl 4 rfl) ?_
        refine lv_iadd hx hb dX9_declareCall_222 ?_
        obtain ⟨v6, ev6, h⟩ := bn_some h
        refine kV (As := [.int y5, .int (3 + y7)]) (rest := [.int v4, .ref a_z_s]) SS hKK (qX9_of l D cI cM a_z a_z_s a_z_past a_z_keeps a_z_entryKey a_z_entryDefault a_z_held a_z_values a_z_kinds a_z_news z_s z_past z_pasts z_changed z_entries z_keeps z_entryKey z_entryDefault z_counter z_held z_values z_kinds z_news y5 (3 + y7) v6 ev6) cw63 hs5 0 9 rfl rfl rfl hl.1 rfl (Nat.le_of_ble_eq_true rfl) dX9_declareCall_223 ⟨Nat.zero_le _, Nat.zero_le _⟩ ?_
        obtain ⟨g7, ig7, eg7, h⟩ := wr_some h
        refine kAst hx hb hKK hP hD hS 1 rfl ig7 eg7 dX9_declareCall_226 (fun H locs hP hD hS => ?_)
        have hP : va_P D vwCl (W_z cI cM a_z a_z_s a_z_past a_z_keeps a_z_entryKey a_z_entryDefault a_z_held a_z_values a_z_kinds a_z_news g7 z_past z_pasts z_changed z_entries z_keeps z_entryKey z_entryDefault z_counter z_held z_values z_kinds z_news) H := hP
        have hD : va_D _ (W_z cI cM a_z a_z_s a_z_past a_z_keeps a_z_entryKey a_z_entryDefault a_z_held a_z_values a_z_kinds a_z_news g7 z_past z_pasts z_changed z_entries z_keeps z_entryKey z_entryDefault z_counter z_held z_values z_kinds z_news) := hD
        refine lv_iinc (v := y7 + 1) (lv' := [(7, .int (y7 + 1)), (0, .ref a_z), (4, .int y4), (5, .int y5), (6, .int y6)]) hx hb dX9_declareCall_227 hl (k := 4) rfl rfl (by decide) rfl (fun ls hl => ?_)
        refine lv_goto (tgt := 194) hx hb dX9_declareCall_230 (by decide) ?_
        exact ih H locs g7 z_past z_pasts z_changed y4 y5 y6 (y7 + 1) h hP hD hS ls (lv_sub (l' := [(0, .ref a_z), (4, .int y4), (5, .int y5), (6, .int y6), (7, .int (y7 + 1))]) hl [1, 2, 3, 4, 0] rfl)
  have F110 : ∀ (n : Nat) (H : Heap) (locs : List Loc) (z_s : Nat → Int32) (z_past : Nat → Int32) (z_pasts : Int32) (z_changed : Int32) (y1 : Int32) (y2 : Int32) (y4 : Int32) (y5 : Int32) (y6 : Int32) (y7 : Int32), lX9_declareCall_110  n z_s z_past z_pasts z_changed y1 y2 y4 y5 y6 y7 = some (r, r_z_s, r_z_past, r_z_pasts, r_z_changed) → va_P D vwCl (W_z cI cM a_z a_z_s a_z_past a_z_keeps a_z_entryKey a_z_entryDefault a_z_held a_z_values a_z_kinds a_z_news z_s z_past z_pasts z_changed z_entries z_keeps z_entryKey z_entryDefault z_counter z_held z_values z_kinds z_news) H → va_D (fun q => q ∈ (w0).map (·.1)) (W_z cI cM a_z a_z_s a_z_past a_z_keeps a_z_entryKey a_z_entryDefault a_z_held a_z_values a_z_kinds a_z_news z_s z_past z_pasts z_changed z_entries z_keeps z_entryKey z_entryDefault z_counter z_held z_values z_kinds z_news) → va_S (fun q => q ∈ (w0).map (·.1)) s.heap H locs → ∀ ls : Array Slot, lv_has ls 8 [(0, .ref a_z), (1, .int y1), (2, .int y2), (4, .int y4), (5, .int y5), (6, .int y6), (7, .int y7)] → WI p l e rmX9_declareCall s m av below meth c D w0 w1 (some (.int r)) H locs 110 ls [] := by
    intro n
    induction n with
    | zero => intro H locs z_s z_past z_pasts z_changed y1 y2 y4 y5 y6 y7 h; exact no_some h
    | succ n ih =>
      intro H locs z_s z_past z_pasts z_changed y1 y2 y4 y5 y6 y7 h hP hD hS ls hl
      rw [lX9_declareCall_110_s] at h
      refine lv_iload hx hb dX9_declareCall_110 (lv_at hl 6 rfl) ?_
      refine lv_bipush (v := 29) hx hb dX9_declareCall_112 (by decide) ?_
      refine lv_icmp_ge (tgt := 137) hx hb dX9_declareCall_114 (by decide) (fun c1 => ?_) (fun c1 => ?_)
      · have h := ifp h c1
        refine lv_aload_n hx hb dX9_declareCall_137 rfl (lv_at hl 0 rfl) ?_
        refine va_get (D := D) (ci := 9) (v := .ref a_z_s) (C := RX9) (T := TX9) (N := 13) hx hb hts hinX9 hown hKK.1 hP 0 rfl rfl 0 (by decide) lk7 (fun _ h9 => h9) rfl dX9_declareCall_138 ?_
        refine lv_aload_n hx hb dX9_declareCall_141 rfl (lv_at hl 0 rfl) ?_
        refine lv_iload hx hb dX9_declareCall_142 (lv_at hl 5 rfl) ?_
        refine lv_iconst (v := 0) hx hb dX9_declareCall_144 (by decide) ?_
        obtain ⟨v2, ev2, h⟩ := bn_some h
        have hs3 : va_P D vwCl (W_z cI cM a_z a_z_s a_z_past a_z_keeps a_z_entryKey a_z_entryDefault a_z_held a_z_values a_z_kinds a_z_news z_s z_past z_pasts z_changed z_entries z_keeps z_entryKey z_entryDefault z_counter z_held z_values z_kinds z_news) _ := hP.sub (ws' := W_z cI cM a_z a_z_s a_z_past a_z_keeps a_z_entryKey a_z_entryDefault a_z_held a_z_values a_z_kinds a_z_news z_s z_past z_pasts z_changed z_entries z_keeps z_entryKey z_entryDefault z_counter z_held z_values z_kinds z_news) [0, 1, 2, 3, 4, 5, 6, 7, 8, 9] rfl
        refine kV (As := [.int y6, .int 0]) (rest := [.ref a_z_s]) SS hKK (qX9_at l D cI cM a_z a_z_s a_z_past a_z_keeps a_z_entryKey a_z_entryDefault a_z_held a_z_values a_z_kinds a_z_news z_s z_past z_pasts z_changed z_entries z_keeps z_entryKey z_entryDefault z_counter z_held z_values z_kinds z_news y6 0 v2 ev2) cw111 hs3 0 9 rfl rfl rfl hl.1 rfl (Nat.le_of_ble_eq_true rfl) dX9_declareCall_145 ⟨Nat.zero_le _, Nat.zero_le _⟩ ?_
        refine lv_iload_n hx hb dX9_declareCall_148 rfl (lv_at hl 1 rfl) ?_
        obtain ⟨g4, ig4, eg4, h⟩ := wr_some h
        refine kAst hx hb hKK hP hD hS 1 rfl ig4 eg4 dX9_declareCall_149 (fun H locs hP hD hS => ?_)
        have hP : va_P D vwCl (W_z cI cM a_z a_z_s a_z_past a_z_keeps a_z_entryKey a_z_entryDefault a_z_held a_z_values a_z_kinds a_z_news g4 z_past z_pasts z_changed z_entries z_keeps z_entryKey z_entryDefault z_counter z_held z_values z_kinds z_news) H := hP
        have hD : va_D _ (W_z cI cM a_z a_z_s a_z_past a_z_keeps a_z_entryKey a_z_entryDefault a_z_held a_z_values a_z_kinds a_z_news g4 z_past z_pasts z_changed z_entries z_keeps z_entryKey z_entryDefault z_counter z_held z_values z_kinds z_news) := hD
        refine lv_aload_n hx hb dX9_declareCall_150 rfl (lv_at hl 0 rfl) ?_
        refine va_get (D := D) (ci := 9) (v := .ref a_z_s) (C := RX9) (T := TX9) (N := 13) hx hb hts hinX9 hown hKK.1 hP 0 rfl rfl 0 (by decide) lk7 (fun _ h9 => h9) rfl dX9_declareCall_151 ?_
        refine lv_aload_n hx hb dX9_declareCall_154 rfl (lv_at hl 0 rfl) ?_
        refine lv_iload hx hb dX9_declareCall_155 (lv_at hl 5 rfl) ?_
        refine lv_iconst (v := 1) hx hb dX9_declareCall_157 (by decide) ?_
        obtain ⟨v5, ev5, h⟩ := bn_some h
        have hs6 : va_P D vwCl (W_z cI cM a_z a_z_s a_z_past a_z_keeps a_z_entryKey a_z_entryDefault a_z_held a_z_values a_z_kinds a_z_news g4 z_past z_pasts z_changed z_entries z_keeps z_entryKey z_entryDefault z_counter z_held z_values z_kinds z_news) _ := hP.sub (ws' := W_z cI cM a_z a_z_s a_z_past a_z_keeps a_z_entryKey a_z_entryDefault a_z_held a_z_values a_z_kinds a_z_news g4 z_past z_pasts z_changed z_entries z_keeps z_entryKey z_entryDefault z_counter z_held z_values z_kinds z_news) [0, 1, 2, 3, 4, 5, 6, 7, 8, 9] rfl
        refine kV (As := [.int y6, .int 1]) (rest := [.ref a_z_s]) SS hKK (qX9_at l D cI cM a_z a_z_s a_z_past a_z_keeps a_z_entryKey a_z_entryDefault a_z_held a_z_values a_z_kinds a_z_news g4 z_past z_pasts z_changed z_entries z_keeps z_entryKey z_entryDefault z_counter z_held z_values z_kinds z_news y6 1 v5 ev5) cw111 hs6 0 9 rfl rfl rfl hl.1 rfl (Nat.le_of_ble_eq_true rfl) dX9_declareCall_158 ⟨Nat.zero_le _, Nat.zero_le _⟩ ?_
        refine lv_iload_n hx hb dX9_declareCall_161 rfl (lv_at hl 2 rfl) ?_
        obtain ⟨g7, ig7, eg7, h⟩ := wr_some h
        refine kAst hx hb hKK hP hD hS 1 rfl ig7 eg7 dX9_declareCall_162 (fun H locs hP hD hS => ?_)
        have hP : va_P D vwCl (W_z cI cM a_z a_z_s a_z_past a_z_keeps a_z_entryKey a_z_entryDefault a_z_held a_z_values a_z_kinds a_z_news g7 z_past z_pasts z_changed z_entries z_keeps z_entryKey z_entryDefault z_counter z_held z_values z_kinds z_news) H := hP
        have hD : va_D _ (W_z cI cM a_z a_z_s a_z_past a_z_keeps a_z_entryKey a_z_entryDefault a_z_held a_z_values a_z_kinds a_z_news g7 z_past z_pasts z_changed z_entries z_keeps z_entryKey z_entryDefault z_counter z_held z_values z_kinds z_news) := hD
        refine lv_aload_n hx hb dX9_declareCall_163 rfl (lv_at hl 0 rfl) ?_
        refine va_get (D := D) (ci := 9) (v := .ref a_z_s) (C := RX9) (T := TX9) (N := 13) hx hb hts hinX9 hown hKK.1 hP 0 rfl rfl 0 (by decide) lk7 (fun _ h9 => h9) rfl dX9_declareCall_164 ?_
        refine lv_aload_n hx hb dX9_declareCall_167 rfl (lv_at hl 0 rfl) ?_
        refine lv_iload hx hb dX9_declareCall_168 (lv_at hl 5 rfl) ?_
        refine lv_iconst (v := 2) hx hb dX9_declareCall_170 (by decide) ?_
        obtain ⟨v8, ev8, h⟩ := bn_some h
        have hs9 : va_P D vwCl (W_z cI cM a_z a_z_s a_z_past a_z_keeps a_z_entryKey a_z_entryDefault a_z_held a_z_values a_z_kinds a_z_news g7 z_past z_pasts z_changed z_entries z_keeps z_entryKey z_entryDefault z_counter z_held z_values z_kinds z_news) _ := hP.sub (ws' := W_z cI cM a_z a_z_s a_z_past a_z_keeps a_z_entryKey a_z_entryDefault a_z_held a_z_values a_z_kinds a_z_news g7 z_past z_pasts z_changed z_entries z_keeps z_entryKey z_entryDefault z_counter z_held z_values z_kinds z_news) [0, 1, 2, 3, 4, 5, 6, 7, 8, 9] rfl
        refine kV (As := [.int y6, .int 2]) (rest := [.ref a_z_s]) SS hKK (qX9_at l D cI cM a_z a_z_s a_z_past a_z_keeps a_z_entryKey a_z_entryDefault a_z_held a_z_values a_z_kinds a_z_news g7 z_past z_pasts z_changed z_entries z_keeps z_entryKey z_entryDefault z_counter z_held z_values z_kinds z_news y6 2 v8 ev8) cw111 hs9 0 9 rfl rfl rfl hl.1 rfl (Nat.le_of_ble_eq_true rfl) dX9_declareCall_171 ⟨Nat.zero_le _, Nat.zero_le _⟩ ?_
        refine lv_iload hx hb dX9_declareCall_174 (lv_at hl 4 rfl) ?_
        obtain ⟨g10, ig10, eg10, h⟩ := wr_some h
        refine kAst hx hb hKK hP hD hS 1 rfl ig10 eg10 dX9_declareCall_176 (fun H locs hP hD hS => ?_)
        have hP : va_P D vwCl (W_z cI cM a_z a_z_s a_z_past a_z_keeps a_z_entryKey a_z_entryDefault a_z_held a_z_values a_z_kinds a_z_news g10 z_past z_pasts z_changed z_entries z_keeps z_entryKey z_entryDefault z_counter z_held z_values z_kinds z_news) H := hP
        have hD : va_D _ (W_z cI cM a_z a_z_s a_z_past a_z_keeps a_z_entryKey a_z_entryDefault a_z_held a_z_values a_z_kinds a_z_news g10 z_past z_pasts z_changed z_entries z_keeps z_entryKey z_entryDefault z_counter z_held z_values z_kinds z_news) := hD
        refine lv_aload_n hx hb dX9_declareCall_177 rfl (lv_at hl 0 rfl) ?_
        refine va_get (D := D) (ci := 9) (v := .ref a_z_s) (C := RX9) (T := TX9) (N := 13) hx hb hts hinX9 hown hKK.1 hP 0 rfl rfl 0 (by decide) lk7 (fun _ h9 => h9) rfl dX9_declareCall_178 ?_
        refine lv_aload_n hx hb dX9_declareCall_181 rfl (lv_at hl 0 rfl) ?_
        refine lv_iload hx hb dX9_declareCall_182 (lv_at hl 5 rfl) ?_
        refine lv_iconst (v := 4) hx hb dX9_declareCall_184 (by decide) ?_
        obtain ⟨v11, ev11, h⟩ := bn_some h
        have hs12 : va_P D vwCl (W_z cI cM a_z a_z_s a_z_past a_z_keeps a_z_entryKey a_z_entryDefault a_z_held a_z_values a_z_kinds a_z_news g10 z_past z_pasts z_changed z_entries z_keeps z_entryKey z_entryDefault z_counter z_held z_values z_kinds z_news) _ := hP.sub (ws' := W_z cI cM a_z a_z_s a_z_past a_z_keeps a_z_entryKey a_z_entryDefault a_z_held a_z_values a_z_kinds a_z_news g10 z_past z_pasts z_changed z_entries z_keeps z_entryKey z_entryDefault z_counter z_held z_values z_kinds z_news) [0, 1, 2, 3, 4, 5, 6, 7, 8, 9] rfl
        refine kV (As := [.int y6, .int 4]) (rest := [.ref a_z_s]) SS hKK (qX9_at l D cI cM a_z a_z_s a_z_past a_z_keeps a_z_entryKey a_z_entryDefault a_z_held a_z_values a_z_kinds a_z_news g10 z_past z_pasts z_changed z_entries z_keeps z_entryKey z_entryDefault z_counter z_held z_values z_kinds z_news y6 4 v11 ev11) cw111 hs12 0 9 rfl rfl rfl hl.1 rfl (Nat.le_of_ble_eq_true rfl) dX9_declareCall_185 ⟨Nat.zero_le _, Nat.zero_le _⟩ ?_
        refine lv_iload hx hb dX9_declareCall_188 (lv_at hl 3 rfl) ?_
        obtain ⟨g13, ig13, eg13, h⟩ := wr_some h
        refine kAst hx hb hKK hP hD hS 1 rfl ig13 eg13 dX9_declareCall_190 (fun H locs hP hD hS => ?_)
        have hP : va_P D vwCl (W_z cI cM a_z a_z_s a_z_past a_z_keeps a_z_entryKey a_z_entryDefault a_z_held a_z_values a_z_kinds a_z_news g13 z_past z_pasts z_changed z_entries z_keeps z_entryKey z_entryDefault z_counter z_held z_values z_kinds z_news) H := hP
        have hD : va_D _ (W_z cI cM a_z a_z_s a_z_past a_z_keeps a_z_entryKey a_z_entryDefault a_z_held a_z_values a_z_kinds a_z_news g13 z_past z_pasts z_changed z_entries z_keeps z_entryKey z_entryDefault z_counter z_held z_values z_kinds z_news) := hD
        refine lv_iconst (v := 0) hx hb dX9_declareCall_191 (by decide) ?_
        refine lv_istore (lv' := [(7, .int 0), (0, .ref a_z), (1, .int y1), (2, .int y2), (4, .int y4), (5, .int y5), (6, .int y6)]) hx hb dX9_declareCall_192 hl (by decide) rfl (fun ls hl => ?_)
        exact F194 5000 H locs g13 z_past z_pasts z_changed y4 y5 y6 0 h hP hD hS ls (lv_sub (l' := [(0, .ref a_z), (4, .int y4), (5, .int y5), (6, .int y6), (7, .int 0)]) hl [1, 4, 5, 6, 0] rfl)
      · have h := ifn h c1
        refine lv_aload_n hx hb dX9_declareCall_117 rfl (lv_at hl 0 rfl) ?_
        refine va_get (D := D) (ci := 9) (v := .ref a_z_s) (C := RX9) (T := TX9) (N := 13) hx hb hts hinX9 hown hKK.1 hP 0 rfl rfl 0 (by decide) lk7 (fun _ h9 => h9) rfl dX9_declareCall_118 ?_
        refine lv_aload_n hx hb dX9_declareCall_121 rfl (lv_at hl 0 rfl) ?_
        refine lv_iload hx hb dX9_declareCall_122 (lv_at hl 5 rfl) ?_
        refine lv_iload hx hb dX9_declareCall_124 (lv_at hl 6 rfl) ?_
        obtain ⟨v14, ev14, h⟩ := bn_some h
        have hs15 : va_P D vwCl (W_z cI cM a_z a_z_s a_z_past a_z_keeps a_z_entryKey a_z_entryDefault a_z_held a_z_values a_z_kinds a_z_news z_s z_past z_pasts z_changed z_entries z_keeps z_entryKey z_entryDefault z_counter z_held z_values z_kinds z_news) _ := hP.sub (ws' := W_z cI cM a_z a_z_s a_z_past a_z_keeps a_z_entryKey a_z_entryDefault a_z_held a_z_values a_z_kinds a_z_news z_s z_past z_pasts z_changed z_entries z_keeps z_entryKey z_entryDefault z_counter z_held z_values z_kinds z_news) [0, 1, 2, 3, 4, 5, 6, 7, 8, 9] rfl
        refine kV (As := [.int y6, .int y7]) (rest := [.ref a_z_s]) SS hKK (qX9_at l D cI cM a_z a_z_s a_z_past a_z_keeps a_z_entryKey a_z_entryDefault a_z_held a_z_values a_z_kinds a_z_news z_s z_past z_pasts z_changed z_entries z_keeps z_entryKey z_entryDefault z_counter z_held z_values z_kinds z_news y6 y7 v14 ev14) cw111 hs15 0 9 rfl rfl rfl hl.1 rfl (Nat.le_of_ble_eq_true rfl) dX9_declareCall_126 ⟨Nat.zero_le _, Nat.zero_le _⟩ ?_
        refine lv_iconst (v := 0) hx hb dX9_declareCall_129 (by decide) ?_
        obtain ⟨g16, ig16, eg16, h⟩ := wr_some h
        refine kAst hx hb hKK hP hD hS 1 rfl ig16 eg16 dX9_declareCall_130 (fun H locs hP hD hS => ?_)
        have hP : va_P D vwCl (W_z cI cM a_z a_z_s a_z_past a_z_keeps a_z_entryKey a_z_entryDefault a_z_held a_z_values a_z_kinds a_z_news g16 z_past z_pasts z_changed z_entries z_keeps z_entryKey z_entryDefault z_counter z_held z_values z_kinds z_news) H := hP
        have hD : va_D _ (W_z cI cM a_z a_z_s a_z_past a_z_keeps a_z_entryKey a_z_entryDefault a_z_held a_z_values a_z_kinds a_z_news g16 z_past z_pasts z_changed z_entries z_keeps z_entryKey z_entryDefault z_counter z_held z_values z_kinds z_news) := hD
        refine lv_iinc (v := y7 + 1) (lv' := [(7, .int (y7 + 1)), (0, .ref a_z), (1, .int y1), (2, .int y2), (4, .int y4), (5, .int y5), (6, .int y6)]) hx hb dX9_declareCall_131 hl (k := 6) rfl rfl (by decide) rfl (fun ls hl => ?_)
        refine lv_goto (tgt := 110) hx hb dX9_declareCall_134 (by decide) ?_
        exact ih H locs g16 z_past z_pasts z_changed y1 y2 y4 y5 y6 (y7 + 1) h hP hD hS ls (lv_sub (l' := [(0, .ref a_z), (1, .int y1), (2, .int y2), (4, .int y4), (5, .int y5), (6, .int y6), (7, .int (y7 + 1))]) hl [1, 2, 3, 4, 5, 6, 0] rfl)
  unfold fX9_declareCall at h
  refine lv_aload_n hx hb dX9_declareCall_0 rfl (lv_at hl 0 rfl) ?_
  refine lv_iload_n hx hb dX9_declareCall_1 rfl (lv_at hl 1 rfl) ?_
  obtain ⟨v1, ev1, h⟩ := bn_some h
  have hs2 : va_P D vwCl (W_z cI cM a_z a_z_s a_z_past a_z_keeps a_z_entryKey a_z_entryDefault a_z_held a_z_values a_z_kinds a_z_news z_s z_past z_pasts z_changed z_entries z_keeps z_entryKey z_entryDefault z_counter z_held z_values z_kinds z_news) _ := hP.sub (ws' := W_z cI cM a_z a_z_s a_z_past a_z_keeps a_z_entryKey a_z_entryDefault a_z_held a_z_values a_z_kinds a_z_news z_s z_past z_pasts z_changed z_entries z_keeps z_entryKey z_entryDefault z_counter z_held z_values z_kinds z_news) [0, 1, 2, 3, 4, 5, 6, 7, 8, 9] rfl
  refine kV (As := [.int x1]) (rest := []) SS hKK (qX9_isType l D cI cM a_z a_z_s a_z_past a_z_keeps a_z_entryKey a_z_entryDefault a_z_held a_z_values a_z_kinds a_z_news z_s z_past z_pasts z_changed z_entries z_keeps z_entryKey z_entryDefault z_counter z_held z_values z_kinds z_news x1 v1 ev1) cw80 hs2 0 9 rfl rfl rfl hl.1 rfl (Nat.le_of_ble_eq_true rfl) dX9_declareCall_2 ⟨Nat.zero_le _, Nat.zero_le _⟩ ?_
  refine lv_if_eq (tgt := 35) hx hb dX9_declareCall_5 (by decide) (fun c3 => ?_) (fun c3 => ?_)
  · have h := ifp h c3
    refine lv_iconst (v := (-1)) hx hb dX9_declareCall_35 (by decide) ?_
    simp only [Option.some.injEq, Prod.mk.injEq] at h
    obtain ⟨e0, e1, e2, e3, e4⟩ := h
    exact kRetI hx hb hr hlk e0 (by rw [← hw1, ← e1, ← e2, ← e3, ← e4]; exact hP) hS dX9_declareCall_36
  · have h := ifn h c3
    refine lv_aload_n hx hb dX9_declareCall_8 rfl (lv_at hl 0 rfl) ?_
    refine lv_iload_n hx hb dX9_declareCall_9 rfl (lv_at hl 2 rfl) ?_
    obtain ⟨v4, ev4, h⟩ := bn_some h
    refine kV (As := [.int x2]) (rest := []) SS hKK (qX9_isType l D cI cM a_z a_z_s a_z_past a_z_keeps a_z_entryKey a_z_entryDefault a_z_held a_z_values a_z_kinds a_z_news z_s z_past z_pasts z_changed z_entries z_keeps z_entryKey z_entryDefault z_counter z_held z_values z_kinds z_news x2 v4 ev4) cw80 hs2 0 9 rfl rfl rfl hl.1 rfl (Nat.le_of_ble_eq_true rfl) dX9_declareCall_10 ⟨Nat.zero_le _, Nat.zero_le _⟩ ?_
    refine lv_if_eq (tgt := 35) hx hb dX9_declareCall_13 (by decide) (fun c5 => ?_) (fun c5 => ?_)
    · have h := ifp h c5
      refine lv_iconst (v := (-1)) hx hb dX9_declareCall_35 (by decide) ?_
      simp only [Option.some.injEq, Prod.mk.injEq] at h
      obtain ⟨e0, e1, e2, e3, e4⟩ := h
      exact kRetI hx hb hr hlk e0 (by rw [← hw1, ← e1, ← e2, ← e3, ← e4]; exact hP) hS dX9_declareCall_36
    · have h := ifn h c5
      refine lv_iload_n hx hb dX9_declareCall_16 rfl (lv_at hl 3 rfl) ?_
      refine lv_iconst (v := 0) hx hb dX9_declareCall_17 (by decide) ?_
      refine lv_iconst (v := 5) hx hb dX9_declareCall_18 (by decide) ?_
      obtain ⟨v6, ev6, h⟩ := bn_some h
      refine kS (As := [.int x3, .int 0, .int 5]) (rest := []) SS hKK (qX9_in l D cI cM x3 0 5 v6 ev6) cw44 va_P_nil rfl hl.1 rfl (Nat.le_of_ble_eq_true rfl) dX9_declareCall_19 ⟨Nat.zero_le _, Nat.zero_le _⟩ ?_
      refine lv_if_eq (tgt := 35) hx hb dX9_declareCall_22 (by decide) (fun c7 => ?_) (fun c7 => ?_)
      · have h := ifp h c7
        refine lv_iconst (v := (-1)) hx hb dX9_declareCall_35 (by decide) ?_
        simp only [Option.some.injEq, Prod.mk.injEq] at h
        obtain ⟨e0, e1, e2, e3, e4⟩ := h
        exact kRetI hx hb hr hlk e0 (by rw [← hw1, ← e1, ← e2, ← e3, ← e4]; exact hP) hS dX9_declareCall_36
      · have h := ifn h c7
        refine lv_iload hx hb dX9_declareCall_25 (lv_at hl 4 rfl) ?_
        refine lv_iconst (v := 0) hx hb dX9_declareCall_27 (by decide) ?_
        refine lv_iconst (v := 5) hx hb dX9_declareCall_28 (by decide) ?_
        obtain ⟨v8, ev8, h⟩ := bn_some h
        refine kS (As := [.int x4, .int 0, .int 5]) (rest := []) SS hKK (qX9_in l D cI cM x4 0 5 v8 ev8) cw44 va_P_nil rfl hl.1 rfl (Nat.le_of_ble_eq_true rfl) dX9_declareCall_29 ⟨Nat.zero_le _, Nat.zero_le _⟩ ?_
        refine lv_if_ne (tgt := 37) hx hb dX9_declareCall_32 (by decide) (fun c9 => ?_) (fun c9 => ?_)
        · have h := ifn h c9
          refine lv_aload_n hx hb dX9_declareCall_37 rfl (lv_at hl 0 rfl) ?_
          refine lv_iload_n hx hb dX9_declareCall_38 rfl (lv_at hl 1 rfl) ?_
          refine lv_iload_n hx hb dX9_declareCall_39 rfl (lv_at hl 3 rfl) ?_
          refine lv_iload hx hb dX9_declareCall_40 (lv_at hl 4 rfl) ?_
          obtain ⟨v10, ev10, h⟩ := bn_some h
          refine kV (As := [.int x1, .int x3, .int x4]) (rest := []) SS hKK (qX9_targetOf l D cI cM a_z a_z_s a_z_past a_z_keeps a_z_entryKey a_z_entryDefault a_z_held a_z_values a_z_kinds a_z_news z_s z_past z_pasts z_changed z_entries z_keeps z_entryKey z_entryDefault z_counter z_held z_values z_kinds z_news x1 x3 x4 v10 ev10) cw114 hs2 0 9 rfl rfl rfl hl.1 rfl (Nat.le_of_ble_eq_true rfl) dX9_declareCall_42 ⟨Nat.zero_le _, Nat.zero_le _⟩ ?_
          refine lv_istore (lv' := [(5, .int v10), (0, .ref a_z), (1, .int x1), (2, .int x2), (3, .int x3), (4, .int x4)]) hx hb dX9_declareCall_45 hl (by decide) rfl (fun ls hl => ?_)
          refine lv_aload_n hx hb dX9_declareCall_47 rfl (lv_at hl 1 rfl) ?_
          refine lv_iload_n hx hb dX9_declareCall_48 rfl (lv_at hl 3 rfl) ?_
          obtain ⟨v11, ev11, h⟩ := bn_some h
          refine kV (As := [.int x2]) (rest := []) SS hKK (qX9_isInterface l D cI cM a_z a_z_s a_z_past a_z_keeps a_z_entryKey a_z_entryDefault a_z_held a_z_values a_z_kinds a_z_news z_s z_past z_pasts z_changed z_entries z_keeps z_entryKey z_entryDefault z_counter z_held z_values z_kinds z_news x2 v11 ev11) cw59 hs2 0 9 rfl rfl rfl hl.1 rfl (Nat.le_of_ble_eq_true rfl) dX9_declareCall_49 ⟨Nat.zero_le _, Nat.zero_le _⟩ ?_
          refine lv_if_ne (tgt := 74) hx hb dX9_declareCall_52 (by decide) (fun c12 => ?_) (fun c12 => ?_)
          · have h := ifn h c12
            refine lv_bipush (v := (-2)) hx hb dX9_declareCall_74 (by decide) ?_
            simp only [Option.some.injEq, Prod.mk.injEq] at h
            obtain ⟨e0, e1, e2, e3, e4⟩ := h
            exact kRetI hx hb hr hlk e0 (by rw [← hw1, ← e1, ← e2, ← e3, ← e4]; exact hP) hS dX9_declareCall_76
          · have h := ifp h c12
            refine lv_aload_n hx hb dX9_declareCall_55 rfl (lv_at hl 1 rfl) ?_
            refine lv_iload_n hx hb dX9_declareCall_56 rfl (lv_at hl 3 rfl) ?_
            obtain ⟨v13, ev13, h⟩ := bn_some h
            refine kV (As := [.int x2]) (rest := []) SS hKK (qX9_supers l D cI cM a_z a_z_s a_z_past a_z_keeps a_z_entryKey a_z_entryDefault a_z_held a_z_values a_z_kinds a_z_news z_s z_past z_pasts z_changed z_entries z_keeps z_entryKey z_entryDefault z_counter z_held z_values z_kinds z_news x2 v13 ev13) cw56 hs2 0 9 rfl rfl rfl hl.1 rfl (Nat.le_of_ble_eq_true rfl) dX9_declareCall_57 ⟨Nat.zero_le _, Nat.zero_le _⟩ ?_
            refine lv_iload_n hx hb dX9_declareCall_60 rfl (lv_at hl 2 rfl) ?_
            obtain ⟨v14, ev14, h⟩ := bn_some h
            refine kS (As := [.int v13, .int x1]) (rest := []) SS hKK (qX9_has l D cI cM v13 x1 v14 ev14) cw48 va_P_nil rfl hl.1 rfl (Nat.le_of_ble_eq_true rfl) dX9_declareCall_61 ⟨Nat.zero_le _, Nat.zero_le _⟩ ?_
            refine lv_if_eq (tgt := 74) hx hb dX9_declareCall_64 (by decide) (fun c15 => ?_) (fun c15 => ?_)
            · have h := ifp h c15
              refine lv_bipush (v := (-2)) hx hb dX9_declareCall_74 (by decide) ?_
              simp only [Option.some.injEq, Prod.mk.injEq] at h
              obtain ⟨e0, e1, e2, e3, e4⟩ := h
              exact kRetI hx hb hr hlk e0 (by rw [← hw1, ← e1, ← e2, ← e3, ← e4]; exact hP) hS dX9_declareCall_76
            · have h := ifn h c15
              refine lv_iload hx hb dX9_declareCall_67 (lv_at hl 0 rfl) ?_
              refine lv_bipush (v := (-9)) hx hb dX9_declareCall_69 (by decide) ?_
              refine lv_icmp_ne (tgt := 77) hx hb dX9_declareCall_71 (by decide) (fun c16 => ?_) (fun c16 => ?_)
              · have h := ifn h c16
                refine lv_aload_n hx hb dX9_declareCall_77 rfl (lv_at hl 1 rfl) ?_
                refine va_get (D := D) (ci := 9) (v := .ref a_z_s) (C := RX9) (T := TX9) (N := 13) hx hb hts hinX9 hown hKK.1 hP 0 rfl rfl 0 (by decide) lk7 (fun _ h9 => h9) rfl dX9_declareCall_78 ?_
                refine lv_sipush (v := 234) hx hb dX9_declareCall_81 (by decide) ?_
                obtain ⟨v17, iv17, ev17, h⟩ := rd_some h
                refine kAld hx hb hKK hP 1 rfl iv17 ev17 dX9_declareCall_84 ?_
                refine lv_bipush (v := 8) hx hb dX9_declareCall_85 (by decide) ?_
                refine lv_icmp_ne (tgt := 93) hx hb dX9_declareCall_87 (by decide) (fun c18 => ?_) (fun c18 => ?_)
                · have h := ifn h c18
                  refine lv_aload_n hx hb dX9_declareCall_93 rfl (lv_at hl 1 rfl) ?_
                  obtain ⟨g19, g20, g21, eg19, h⟩ := bn3_some h
                  refine kVI (As := []) (rest := []) (st1 := []) SS hKK (qX9_edit l D cI cM a_z a_z_s a_z_past a_z_keeps a_z_entryKey a_z_entryDefault a_z_held a_z_values a_z_kinds a_z_news z_s z_past z_pasts z_changed z_entries z_keeps z_entryKey z_entryDefault z_counter z_held z_values z_kinds z_news g19 g20 g21 eg19) cw86 hP hD hS [0, 1, 2, 3, 4, 5, 6, 7, 8, 9] rfl rfl rfl rfl 0 9 rfl rfl rfl hl.1 rfl (Nat.le_of_ble_eq_true rfl) dX9_declareCall_94 ⟨Nat.zero_le _, Nat.zero_le _⟩ rfl (fun H locs hP hD hS => ?_)
                  have hP : va_P D vwCl (W_z cI cM a_z a_z_s a_z_past a_z_keeps a_z_entryKey a_z_entryDefault a_z_held a_z_values a_z_kinds a_z_news z_s g19 g20 g21 z_entries z_keeps z_entryKey z_entryDefault z_counter z_held z_values z_kinds z_news) H := hP
                  have hD : va_D _ (W_z cI cM a_z a_z_s a_z_past a_z_keeps a_z_entryKey a_z_entryDefault a_z_held a_z_values a_z_kinds a_z_news z_s g19 g20 g21 z_entries z_keeps z_entryKey z_entryDefault z_counter z_held z_values z_kinds z_news) := hD
                  refine lv_aload_n hx hb dX9_declareCall_97 rfl (lv_at hl 1 rfl) ?_
                  refine va_get (D := D) (ci := 9) (v := .ref a_z_s) (C := RX9) (T := TX9) (N := 13) hx hb hts hinX9 hown hKK.1 hP 0 rfl rfl 0 (by decide) lk7 (fun _ h9 => h9) rfl dX9_declareCall_98 ?_
                  refine lv_sipush (v := 234) hx hb dX9_declareCall_101 (by decide) ?_
                  obtain ⟨v22, iv22, ev22, h⟩ := rd_some h
                  refine kAld hx hb hKK hP 1 rfl iv22 ev22 dX9_declareCall_104 ?_
                  refine lv_istore (lv' := [(6, .int v22), (5, .int v10), (0, .ref a_z), (1, .int x1), (2, .int x2), (3, .int x3), (4, .int x4)]) hx hb dX9_declareCall_105 hl (by decide) rfl (fun ls hl => ?_)
                  refine lv_iconst (v := 0) hx hb dX9_declareCall_107 (by decide) ?_
                  refine lv_istore (lv' := [(7, .int 0), (6, .int v22), (5, .int v10), (0, .ref a_z), (1, .int x1), (2, .int x2), (3, .int x3), (4, .int x4)]) hx hb dX9_declareCall_108 hl (by decide) rfl (fun ls hl => ?_)
                  exact F110 5000 H locs z_s g19 g20 g21 x1 x2 x4 v10 v22 0 h hP hD hS ls (lv_sub (l' := [(0, .ref a_z), (1, .int x1), (2, .int x2), (4, .int x4), (5, .int v10), (6, .int v22), (7, .int 0)]) hl [3, 4, 5, 7, 2, 1, 0] rfl)
                · have h := ifp h c18
                  refine lv_bipush (v := (-3)) hx hb dX9_declareCall_90 (by decide) ?_
                  simp only [Option.some.injEq, Prod.mk.injEq] at h
                  obtain ⟨e0, e1, e2, e3, e4⟩ := h
                  exact kRetI hx hb hr hlk e0 (by rw [← hw1, ← e1, ← e2, ← e3, ← e4]; exact hP) hS dX9_declareCall_92
              · have h := ifp h c16
                refine lv_bipush (v := (-2)) hx hb dX9_declareCall_74 (by decide) ?_
                simp only [Option.some.injEq, Prod.mk.injEq] at h
                obtain ⟨e0, e1, e2, e3, e4⟩ := h
                exact kRetI hx hb hr hlk e0 (by rw [← hw1, ← e1, ← e2, ← e3, ← e4]; exact hP) hS dX9_declareCall_76
        · have h := ifp h c9
          refine lv_iconst (v := (-1)) hx hb dX9_declareCall_35 (by decide) ?_
          simp only [Option.some.injEq, Prod.mk.injEq] at h
          obtain ⟨e0, e1, e2, e3, e4⟩ := h
          exact kRetI hx hb hr hlk e0 (by rw [← hw1, ← e1, ← e2, ← e3, ← e4]; exact hP) hS dX9_declareCall_36
set_option maxHeartbeats 8000000 in
set_option maxRecDepth 100000 in
theorem qX9_isArgument (l : Launch) (D : va_G) (cI cM : ClassId) (a_z a_z_s a_z_past a_z_keeps a_z_entryKey a_z_entryDefault a_z_held a_z_values a_z_kinds a_z_news : Nat) (z_s : Nat → Int32) (z_past : Nat → Int32) (z_pasts : Int32) (z_changed : Int32) (z_entries : Int32) (z_keeps : Nat → Int32) (z_entryKey : Nat → Int32) (z_entryDefault : Nat → Int32) (z_counter : Int32) (z_held : Nat → Int32) (z_values : Nat → Int32) (z_kinds : Nat → Int32) (z_news : Nat → Int32) (x1 : Int32) (x2 : Int32) (r : Int32) (h : fX9_isArgument z_s x1 x2 = some r) : PM l yX9_isArgument wsX9_isArgument rmX9_isArgument D cI cM [.ref a_z, .int x1, .int x2] (W_z cI cM a_z a_z_s a_z_past a_z_keeps a_z_entryKey a_z_entryDefault a_z_held a_z_values a_z_kinds a_z_news z_s z_past z_pasts z_changed z_entries z_keeps z_entryKey z_entryDefault z_counter z_held z_values z_kinds z_news) r := by
  refine PM.of (cc := cX9_isArgument) (maxL := 3) (ret := (some .boolean)) (by decide) rfl (Nat.le_of_ble_eq_true rfl) ?_
  intro p e s m below meth c ls hx hb hr hml hown hts hlk hP hKK hl
  have hown : s.vm.findClass RX9 = some m.cls := hown
  have hl : lv_has ls 3 [(0, .ref a_z), (1, .int x1), (2, .int x2)] := hl
  generalize hav : ([.ref a_z, .int x1, .int x2] : List Value) = av at hts ⊢
  have SS : CallFix p m c cX9_isArgument 3 s av.toArray wsX9_isArgument RX9 := ⟨hx, hb, hml, hown, hts⟩
  have hinX9 : ∀ w ∈ u_ws RX9 TX9 13, w ∈ wsX9_isArgument := by decide +kernel
  have lk7 := hts (.fieldLink RX9 7 "SignatureChangerModel" "s" "[I") (List.mem_of_getElem? (i := 1) rfl)
  have cw44 : CallB rmX9_isArgument s av.toArray RX9 44 yX9_in cX9_in 3 (some .boolean) wsX9_in rmX9_in 0 0 3 ∧ (Cond.static yX9_in).before av.toArray s = true := va_cwS 3 hts gX9_isArgument_X9_in rfl rfl rfl (by decide +kernel) ⟨Nat.le_of_ble_eq_true rfl, Nat.le_of_ble_eq_true rfl⟩
  have cw111 : CallW rmX9_isArgument s av.toArray RX9 RX9 111 yX9_at cX9_at 3 (some .int) wsX9_at rmX9_at 0 0 2 := cwV 2 hts gX9_isArgument_X9_at rfl rfl rfl (by decide +kernel) ⟨Nat.le_of_ble_eq_true rfl, Nat.le_of_ble_eq_true rfl⟩
  have cw117 : CallW rmX9_isArgument s av.toArray RX9 RX9 117 yX9_isCall cX9_isCall 2 (some .boolean) wsX9_isCall rmX9_isCall 0 0 1 := cwV 1 hts gX9_isArgument_X9_isCall rfl rfl rfl (by decide +kernel) ⟨Nat.le_of_ble_eq_true rfl, Nat.le_of_ble_eq_true rfl⟩
  unfold fX9_isArgument at h
  refine lv_aload_n hx hb dX9_isArgument_0 rfl (lv_at hl 0 rfl) ?_
  refine lv_iload_n hx hb dX9_isArgument_1 rfl (lv_at hl 1 rfl) ?_
  obtain ⟨v1, ev1, h⟩ := bn_some h
  have hs2 : va_P D vwCl (W_z cI cM a_z a_z_s a_z_past a_z_keeps a_z_entryKey a_z_entryDefault a_z_held a_z_values a_z_kinds a_z_news z_s z_past z_pasts z_changed z_entries z_keeps z_entryKey z_entryDefault z_counter z_held z_values z_kinds z_news) _ := hP.sub (ws' := W_z cI cM a_z a_z_s a_z_past a_z_keeps a_z_entryKey a_z_entryDefault a_z_held a_z_values a_z_kinds a_z_news z_s z_past z_pasts z_changed z_entries z_keeps z_entryKey z_entryDefault z_counter z_held z_values z_kinds z_news) [0, 1, 2, 3, 4, 5, 6, 7, 8, 9] rfl
  refine kV (As := [.int x1]) (rest := []) SS hKK (qX9_isCall l D cI cM a_z a_z_s a_z_past a_z_keeps a_z_entryKey a_z_entryDefault a_z_held a_z_values a_z_kinds a_z_news z_s z_past z_pasts z_changed z_entries z_keeps z_entryKey z_entryDefault z_counter z_held z_values z_kinds z_news x1 v1 ev1) cw117 hs2 0 9 rfl rfl rfl hl.1 rfl (Nat.le_of_ble_eq_true rfl) dX9_isArgument_2 ⟨Nat.zero_le _, Nat.zero_le _⟩ ?_
  refine lv_if_eq (tgt := 33) hx hb dX9_isArgument_5 (by decide) (fun c3 => ?_) (fun c3 => ?_)
  · have h := ifp h c3
    refine lv_iconst (v := 0) hx hb dX9_isArgument_33 (by decide) ?_
    exact kRetZ hx hb hr hlk rfl (Option.some.inj h) dX9_isArgument_34
  · have h := ifn h c3
    refine lv_iload_n hx hb dX9_isArgument_8 rfl (lv_at hl 2 rfl) ?_
    refine lv_iconst (v := 0) hx hb dX9_isArgument_9 (by decide) ?_
    refine lv_aload_n hx hb dX9_isArgument_10 rfl (lv_at hl 0 rfl) ?_
    refine va_get (D := D) (ci := 9) (v := .ref a_z_s) (C := RX9) (T := TX9) (N := 13) hx hb hts hinX9 hown hKK.1 hP 0 rfl rfl 0 (by decide) lk7 (fun _ h9 => h9) rfl dX9_isArgument_11 ?_
    refine lv_aload_n hx hb dX9_isArgument_14 rfl (lv_at hl 0 rfl) ?_
    refine lv_iload_n hx hb dX9_isArgument_15 rfl (lv_at hl 1 rfl) ?_
    refine lv_iconst (v := 4) hx hb dX9_isArgument_16 (by decide) ?_
    obtain ⟨v4, ev4, h⟩ := bn_some h
    refine kV (As := [.int x1, .int 4]) (rest := [.ref a_z_s, .int 0, .int x2]) SS hKK (qX9_at l D cI cM a_z a_z_s a_z_past a_z_keeps a_z_entryKey a_z_entryDefault a_z_held a_z_values a_z_kinds a_z_news z_s z_past z_pasts z_changed z_entries z_keeps z_entryKey z_entryDefault z_counter z_held z_values z_kinds z_news x1 4 v4 ev4) cw111 hs2 0 9 rfl rfl rfl hl.1 rfl (Nat.le_of_ble_eq_true rfl) dX9_isArgument_17 ⟨Nat.zero_le _, Nat.zero_le _⟩ ?_
    obtain ⟨v5, iv5, ev5, h⟩ := rd_some h
    refine kAld hx hb hKK hP 1 rfl iv5 ev5 dX9_isArgument_20 ?_
    refine lv_iconst (v := 1) hx hb dX9_isArgument_21 (by decide) ?_
    refine lv_isub hx hb dX9_isArgument_22 ?_
    obtain ⟨v6, ev6, h⟩ := bn_some h
    refine kS (As := [.int x2, .int 0, .int (v5 - 1)]) (rest := []) SS hKK (qX9_in l D cI cM x2 0 (v5 - 1) v6 ev6) cw44 va_P_nil rfl hl.1 rfl (Nat.le_of_ble_eq_true rfl) dX9_isArgument_23 ⟨Nat.zero_le _, Nat.zero_le _⟩ ?_
    refine lv_if_eq (tgt := 33) hx hb dX9_isArgument_26 (by decide) (fun c7 => ?_) (fun c7 => ?_)
    · have h := ifp h c7
      refine lv_iconst (v := 0) hx hb dX9_isArgument_33 (by decide) ?_
      exact kRetZ hx hb hr hlk rfl (Option.some.inj h) dX9_isArgument_34
    · have h := ifn h c7
      refine lv_iconst (v := 1) hx hb dX9_isArgument_29 (by decide) ?_
      refine lv_goto (tgt := 34) hx hb dX9_isArgument_30 (by decide) ?_
      exact kRetZ hx hb hr hlk rfl (Option.some.inj h) dX9_isArgument_34
set_option maxHeartbeats 8000000 in
set_option maxRecDepth 100000 in
theorem qX9_setArgument (l : Launch) (D : va_G) (cI cM : ClassId) (a_z a_z_s a_z_past a_z_keeps a_z_entryKey a_z_entryDefault a_z_held a_z_values a_z_kinds a_z_news : Nat) (z_s : Nat → Int32) (z_past : Nat → Int32) (z_pasts : Int32) (z_changed : Int32) (z_entries : Int32) (z_keeps : Nat → Int32) (z_entryKey : Nat → Int32) (z_entryDefault : Nat → Int32) (z_counter : Int32) (z_held : Nat → Int32) (z_values : Nat → Int32) (z_kinds : Nat → Int32) (z_news : Nat → Int32) (x1 : Int32) (x2 : Int32) (x3 : Int32) (x4 : Int32) (r : Int32) (r_z_s : Nat → Int32) (r_z_past : Nat → Int32) (r_z_pasts : Int32) (r_z_changed : Int32) (h : fX9_setArgument z_s z_past z_pasts z_changed x1 x2 x3 x4 = some (r, r_z_s, r_z_past, r_z_pasts, r_z_changed)) : IM l yX9_setArgument wsX9_setArgument rmX9_setArgument D cI cM [.ref a_z, .int x1, .int x2, .int x3, .int x4] (W_z cI cM a_z a_z_s a_z_past a_z_keeps a_z_entryKey a_z_entryDefault a_z_held a_z_values a_z_kinds a_z_news z_s z_past z_pasts z_changed z_entries z_keeps z_entryKey z_entryDefault z_counter z_held z_values z_kinds z_news) (W_z cI cM a_z a_z_s a_z_past a_z_keeps a_z_entryKey a_z_entryDefault a_z_held a_z_values a_z_kinds a_z_news r_z_s r_z_past r_z_pasts r_z_changed z_entries z_keeps z_entryKey z_entryDefault z_counter z_held z_values z_kinds z_news) (some (.int r)) := by
  refine IM.of (cc := cX9_setArgument) (maxL := 6) (ret := (some .int)) (by decide) rfl (Nat.le_of_ble_eq_true rfl) ?_
  intro p e s m below meth c ls hx hb hr hml hown hts hlk hKK hP hD hS hl
  have hown : s.vm.findClass RX9 = some m.cls := hown
  have hl : lv_has ls 6 [(0, .ref a_z), (1, .int x1), (2, .int x2), (3, .int x3), (4, .int x4)] := hl
  generalize hav : ([.ref a_z, .int x1, .int x2, .int x3, .int x4] : List Value) = av at hts ⊢
  generalize hw1 : W_z cI cM a_z a_z_s a_z_past a_z_keeps a_z_entryKey a_z_entryDefault a_z_held a_z_values a_z_kinds a_z_news r_z_s r_z_past r_z_pasts r_z_changed z_entries z_keeps z_entryKey z_entryDefault z_counter z_held z_values z_kinds z_news = w1
  generalize hw0 : W_z cI cM a_z a_z_s a_z_past a_z_keeps a_z_entryKey a_z_entryDefault a_z_held a_z_values a_z_kinds a_z_news z_s z_past z_pasts z_changed z_entries z_keeps z_entryKey z_entryDefault z_counter z_held z_values z_kinds z_news = w0 at hD hS ⊢
  have hP : va_P D vwCl (W_z cI cM a_z a_z_s a_z_past a_z_keeps a_z_entryKey a_z_entryDefault a_z_held a_z_values a_z_kinds a_z_news z_s z_past z_pasts z_changed z_entries z_keeps z_entryKey z_entryDefault z_counter z_held z_values z_kinds z_news) s.heap := hP
  have hD : va_D (fun q => q ∈ w0.map (·.1)) (W_z cI cM a_z a_z_s a_z_past a_z_keeps a_z_entryKey a_z_entryDefault a_z_held a_z_values a_z_kinds a_z_news z_s z_past z_pasts z_changed z_entries z_keeps z_entryKey z_entryDefault z_counter z_held z_values z_kinds z_news) := by rw [hw0]; exact hD
  have SS : CallFix p m c cX9_setArgument 6 s av.toArray wsX9_setArgument RX9 := ⟨hx, hb, hml, hown, hts⟩
  have hinX9 : ∀ w ∈ u_ws RX9 TX9 13, w ∈ wsX9_setArgument := by decide +kernel
  have lk7 := hts (.fieldLink RX9 7 "SignatureChangerModel" "s" "[I") (List.mem_of_getElem? (i := 1) rfl)
  have cw44 : CallB rmX9_setArgument s av.toArray RX9 44 yX9_in cX9_in 3 (some .boolean) wsX9_in rmX9_in 0 0 3 ∧ (Cond.static yX9_in).before av.toArray s = true := va_cwS 3 hts gX9_setArgument_X9_in rfl rfl rfl (by decide +kernel) ⟨Nat.le_of_ble_eq_true rfl, Nat.le_of_ble_eq_true rfl⟩
  have cw86 : CallW rmX9_setArgument s av.toArray RX9 RX9 86 yX9_edit cX9_edit 2 none wsX9_edit rmX9_edit 0 0 0 := cwV 0 hts gX9_setArgument_X9_edit rfl rfl rfl (by decide +kernel) ⟨Nat.le_of_ble_eq_true rfl, Nat.le_of_ble_eq_true rfl⟩
  have cw111 : CallW rmX9_setArgument s av.toArray RX9 RX9 111 yX9_at cX9_at 3 (some .int) wsX9_at rmX9_at 0 0 2 := cwV 2 hts gX9_setArgument_X9_at rfl rfl rfl (by decide +kernel) ⟨Nat.le_of_ble_eq_true rfl, Nat.le_of_ble_eq_true rfl⟩
  have cw120 : CallW rmX9_setArgument s av.toArray RX9 RX9 120 yX9_isArgument cX9_isArgument 3 (some .boolean) wsX9_isArgument rmX9_isArgument 0 0 2 := cwV 2 hts gX9_setArgument_X9_isArgument rfl rfl rfl (by decide +kernel) ⟨Nat.le_of_ble_eq_true rfl, Nat.le_of_ble_eq_true rfl⟩
  have cw123 : CallW rmX9_setArgument s av.toArray RX9 RX9 123 yX9_isFrozen cX9_isFrozen 2 (some .boolean) wsX9_isFrozen rmX9_isFrozen 0 0 1 := cwV 1 hts gX9_setArgument_X9_isFrozen rfl rfl rfl (by decide +kernel) ⟨Nat.le_of_ble_eq_true rfl, Nat.le_of_ble_eq_true rfl⟩
  have F40 : ∀ (H : Heap) (locs : List Loc) (z_s : Nat → Int32) (z_past : Nat → Int32) (z_pasts : Int32) (z_changed : Int32) (y1 : Int32) (y2 : Int32) (y3 : Int32) (y4 : Int32) (s0 : Int32) (s1 : Int32) (s2 : Int32), jX9_setArgument_40  z_s z_past z_pasts z_changed y1 y2 y3 y4 s0 s1 s2 = some (r, r_z_s, r_z_past, r_z_pasts, r_z_changed) → va_P D vwCl (W_z cI cM a_z a_z_s a_z_past a_z_keeps a_z_entryKey a_z_entryDefault a_z_held a_z_values a_z_kinds a_z_news z_s z_past z_pasts z_changed z_entries z_keeps z_entryKey z_entryDefault z_counter z_held z_values z_kinds z_news) H → va_D (fun q => q ∈ (w0).map (·.1)) (W_z cI cM a_z a_z_s a_z_past a_z_keeps a_z_entryKey a_z_entryDefault a_z_held a_z_values a_z_kinds a_z_news z_s z_past z_pasts z_changed z_entries z_keeps z_entryKey z_entryDefault z_counter z_held z_values z_kinds z_news) → va_S (fun q => q ∈ (w0).map (·.1)) s.heap H locs → ∀ ls : Array Slot, lv_has ls 6 [(0, .ref a_z), (1, .int y1), (2, .int y2), (3, .int y3), (4, .int y4)] → WI p l e rmX9_setArgument s m av below meth c D w0 w1 (some (.int r)) H locs 40 ls [.int s2, .int s1, .int s0] := by
    intro H locs z_s z_past z_pasts z_changed y1 y2 y3 y4 s0 s1 s2 h hP hD hS ls hl
    unfold jX9_setArgument_40 at h
    obtain ⟨v1, ev1, h⟩ := bn_some h
    refine kS (As := [.int s0, .int s1, .int s2]) (rest := []) SS hKK (qX9_in l D cI cM s0 s1 s2 v1 ev1) cw44 va_P_nil rfl hl.1 rfl (Nat.le_of_ble_eq_true rfl) dX9_setArgument_40 ⟨Nat.zero_le _, Nat.zero_le _⟩ ?_
    refine lv_if_ne (tgt := 48) hx hb dX9_setArgument_43 (by decide) (fun c2 => ?_) (fun c2 => ?_)
    · have h := ifn h c2
      refine lv_aload_n hx hb dX9_setArgument_48 rfl (lv_at hl 0 rfl) ?_
      refine va_get (D := D) (ci := 9) (v := .ref a_z_s) (C := RX9) (T := TX9) (N := 13) hx hb hts hinX9 hown hKK.1 hP 0 rfl rfl 0 (by decide) lk7 (fun _ h9 => h9) rfl dX9_setArgument_49 ?_
      refine lv_aload_n hx hb dX9_setArgument_52 rfl (lv_at hl 0 rfl) ?_
      refine lv_iload_n hx hb dX9_setArgument_53 rfl (lv_at hl 1 rfl) ?_
      refine lv_iconst (v := 5) hx hb dX9_setArgument_54 (by decide) ?_
      refine lv_iload_n hx hb dX9_setArgument_55 rfl (lv_at hl 2 rfl) ?_
      refine lv_iadd hx hb dX9_setArgument_56 ?_
      obtain ⟨v3, ev3, h⟩ := bn_some h
      have hs4 : va_P D vwCl (W_z cI cM a_z a_z_s a_z_past a_z_keeps a_z_entryKey a_z_entryDefault a_z_held a_z_values a_z_kinds a_z_news z_s z_past z_pasts z_changed z_entries z_keeps z_entryKey z_entryDefault z_counter z_held z_values z_kinds z_news) _ := hP.sub (ws' := W_z cI cM a_z a_z_s a_z_past a_z_keeps a_z_entryKey a_z_entryDefault a_z_held a_z_values a_z_kinds a_z_news z_s z_past z_pasts z_changed z_entries z_keeps z_entryKey z_entryDefault z_counter z_held z_values z_kinds z_news) [0, 1, 2, 3, 4, 5, 6, 7, 8, 9] rfl
      refine kV (As := [.int y1, .int (5 + y2)]) (rest := [.ref a_z_s]) SS hKK (qX9_at l D cI cM a_z a_z_s a_z_past a_z_keeps a_z_entryKey a_z_entryDefault a_z_held a_z_values a_z_kinds a_z_news z_s z_past z_pasts z_changed z_entries z_keeps z_entryKey z_entryDefault z_counter z_held z_values z_kinds z_news y1 (5 + y2) v3 ev3) cw111 hs4 0 9 rfl rfl rfl hl.1 rfl (Nat.le_of_ble_eq_true rfl) dX9_setArgument_57 ⟨Nat.zero_le _, Nat.zero_le _⟩ ?_
      obtain ⟨v5, iv5, ev5, h⟩ := rd_some h
      refine kAld hx hb hKK hP 1 rfl iv5 ev5 dX9_setArgument_60 ?_
      refine lv_istore (lv' := [(5, .int v5), (0, .ref a_z), (1, .int y1), (2, .int y2), (3, .int y3), (4, .int y4)]) hx hb dX9_setArgument_61 hl (by decide) rfl (fun ls hl => ?_)
      refine lv_aload_n hx hb dX9_setArgument_63 rfl (lv_at hl 1 rfl) ?_
      refine lv_iload_n hx hb dX9_setArgument_64 rfl (lv_at hl 2 rfl) ?_
      obtain ⟨v6, ev6, h⟩ := bn_some h
      refine kV (As := [.int y1]) (rest := []) SS hKK (qX9_isFrozen l D cI cM a_z a_z_s a_z_past a_z_keeps a_z_entryKey a_z_entryDefault a_z_held a_z_values a_z_kinds a_z_news z_s z_past z_pasts z_changed z_entries z_keeps z_entryKey z_entryDefault z_counter z_held z_values z_kinds z_news y1 v6 ev6) cw123 hs4 0 9 rfl rfl rfl hl.1 rfl (Nat.le_of_ble_eq_true rfl) dX9_setArgument_65 ⟨Nat.zero_le _, Nat.zero_le _⟩ ?_
      refine lv_if_ne (tgt := 77) hx hb dX9_setArgument_68 (by decide) (fun c7 => ?_) (fun c7 => ?_)
      · have h := ifn h c7
        refine lv_bipush (v := (-2)) hx hb dX9_setArgument_77 (by decide) ?_
        simp only [Option.some.injEq, Prod.mk.injEq] at h
        obtain ⟨e0, e1, e2, e3, e4⟩ := h
        exact kRetI hx hb hr hlk e0 (by rw [← hw1, ← e1, ← e2, ← e3, ← e4]; exact hP) hS dX9_setArgument_79
      · have h := ifp h c7
        refine lv_iload hx hb dX9_setArgument_71 (lv_at hl 0 rfl) ?_
        refine lv_iconst (v := 3) hx hb dX9_setArgument_73 (by decide) ?_
        refine lv_icmp_ne (tgt := 80) hx hb dX9_setArgument_74 (by decide) (fun c8 => ?_) (fun c8 => ?_)
        · have h := ifn h c8
          refine lv_aload_n hx hb dX9_setArgument_80 rfl (lv_at hl 1 rfl) ?_
          obtain ⟨g9, g10, g11, eg9, h⟩ := bn3_some h
          refine kVI (As := []) (rest := []) (st1 := []) SS hKK (qX9_edit l D cI cM a_z a_z_s a_z_past a_z_keeps a_z_entryKey a_z_entryDefault a_z_held a_z_values a_z_kinds a_z_news z_s z_past z_pasts z_changed z_entries z_keeps z_entryKey z_entryDefault z_counter z_held z_values z_kinds z_news g9 g10 g11 eg9) cw86 hP hD hS [0, 1, 2, 3, 4, 5, 6, 7, 8, 9] rfl rfl rfl rfl 0 9 rfl rfl rfl hl.1 rfl (Nat.le_of_ble_eq_true rfl) dX9_setArgument_81 ⟨Nat.zero_le _, Nat.zero_le _⟩ rfl (fun H locs hP hD hS => ?_)
          have hP : va_P D vwCl (W_z cI cM a_z a_z_s a_z_past a_z_keeps a_z_entryKey a_z_entryDefault a_z_held a_z_values a_z_kinds a_z_news z_s g9 g10 g11 z_entries z_keeps z_entryKey z_entryDefault z_counter z_held z_values z_kinds z_news) H := hP
          have hD : va_D _ (W_z cI cM a_z a_z_s a_z_past a_z_keeps a_z_entryKey a_z_entryDefault a_z_held a_z_values a_z_kinds a_z_news z_s g9 g10 g11 z_entries z_keeps z_entryKey z_entryDefault z_counter z_held z_values z_kinds z_news) := hD
          refine lv_aload_n hx hb dX9_setArgument_84 rfl (lv_at hl 1 rfl) ?_
          refine va_get (D := D) (ci := 9) (v := .ref a_z_s) (C := RX9) (T := TX9) (N := 13) hx hb hts hinX9 hown hKK.1 hP 0 rfl rfl 0 (by decide) lk7 (fun _ h9 => h9) rfl dX9_setArgument_85 ?_
          refine lv_aload_n hx hb dX9_setArgument_88 rfl (lv_at hl 1 rfl) ?_
          refine lv_iload_n hx hb dX9_setArgument_89 rfl (lv_at hl 2 rfl) ?_
          refine lv_iconst (v := 5) hx hb dX9_setArgument_90 (by decide) ?_
          refine lv_iload_n hx hb dX9_setArgument_91 rfl (lv_at hl 3 rfl) ?_
          refine lv_iadd hx hb dX9_setArgument_92 ?_
          obtain ⟨v12, ev12, h⟩ := bn_some h
          have hs13 : va_P D vwCl (W_z cI cM a_z a_z_s a_z_past a_z_keeps a_z_entryKey a_z_entryDefault a_z_held a_z_values a_z_kinds a_z_news z_s g9 g10 g11 z_entries z_keeps z_entryKey z_entryDefault z_counter z_held z_values z_kinds z_news) _ := hP.sub (ws' := W_z cI cM a_z a_z_s a_z_past a_z_keeps a_z_entryKey a_z_entryDefault a_z_held a_z_values a_z_kinds a_z_news z_s g9 g10 g11 z_entries z_keeps z_entryKey z_entryDefault z_counter z_held z_values z_kinds z_news) [0, 1, 2, 3, 4, 5, 6, 7, 8, 9] rfl
          refine kV (As := [.int y1, .int (5 + y2)]) (rest := [.ref a_z_s]) SS hKK (qX9_at l D cI cM a_z a_z_s a_z_past a_z_keeps a_z_entryKey a_z_entryDefault a_z_held a_z_values a_z_kinds a_z_news z_s g9 g10 g11 z_entries z_keeps z_entryKey z_entryDefault z_counter z_held z_values z_kinds z_news y1 (5 + y2) v12 ev12) cw111 hs13 0 9 rfl rfl rfl hl.1 rfl (Nat.le_of_ble_eq_true rfl) dX9_setArgument_93 ⟨Nat.zero_le _, Nat.zero_le _⟩ ?_
          refine lv_iload_n hx hb dX9_setArgument_96 rfl (lv_at hl 4 rfl) ?_
          obtain ⟨g14, ig14, eg14, h⟩ := wr_some h
          refine kAst hx hb hKK hP hD hS 1 rfl ig14 eg14 dX9_setArgument_97 (fun H locs hP hD hS => ?_)
          have hP : va_P D vwCl (W_z cI cM a_z a_z_s a_z_past a_z_keeps a_z_entryKey a_z_entryDefault a_z_held a_z_values a_z_kinds a_z_news g14 g9 g10 g11 z_entries z_keeps z_entryKey z_entryDefault z_counter z_held z_values z_kinds z_news) H := hP
          have hD : va_D _ (W_z cI cM a_z a_z_s a_z_past a_z_keeps a_z_entryKey a_z_entryDefault a_z_held a_z_values a_z_kinds a_z_news g14 g9 g10 g11 z_entries z_keeps z_entryKey z_entryDefault z_counter z_held z_values z_kinds z_news) := hD
          refine lv_aload_n hx hb dX9_setArgument_98 rfl (lv_at hl 1 rfl) ?_
          refine va_get (D := D) (ci := 9) (v := .ref a_z_s) (C := RX9) (T := TX9) (N := 13) hx hb hts hinX9 hown hKK.1 hP 0 rfl rfl 0 (by decide) lk7 (fun _ h9 => h9) rfl dX9_setArgument_99 ?_
          refine lv_aload_n hx hb dX9_setArgument_102 rfl (lv_at hl 1 rfl) ?_
          refine lv_iload_n hx hb dX9_setArgument_103 rfl (lv_at hl 2 rfl) ?_
          refine lv_bipush (v := 10) hx hb dX9_setArgument_104 (by decide) ?_
          refine lv_iload_n hx hb dX9_setArgument_106 rfl (lv_at hl 3 rfl) ?_
          refine lv_iadd hx hb dX9_setArgument_107 ?_
          obtain ⟨v15, ev15, h⟩ := bn_some h
          have hs16 : va_P D vwCl (W_z cI cM a_z a_z_s a_z_past a_z_keeps a_z_entryKey a_z_entryDefault a_z_held a_z_values a_z_kinds a_z_news g14 g9 g10 g11 z_entries z_keeps z_entryKey z_entryDefault z_counter z_held z_values z_kinds z_news) _ := hP.sub (ws' := W_z cI cM a_z a_z_s a_z_past a_z_keeps a_z_entryKey a_z_entryDefault a_z_held a_z_values a_z_kinds a_z_news g14 g9 g10 g11 z_entries z_keeps z_entryKey z_entryDefault z_counter z_held z_values z_kinds z_news) [0, 1, 2, 3, 4, 5, 6, 7, 8, 9] rfl
          refine kV (As := [.int y1, .int (10 + y2)]) (rest := [.ref a_z_s]) SS hKK (qX9_at l D cI cM a_z a_z_s a_z_past a_z_keeps a_z_entryKey a_z_entryDefault a_z_held a_z_values a_z_kinds a_z_news g14 g9 g10 g11 z_entries z_keeps z_entryKey z_entryDefault z_counter z_held z_values z_kinds z_news y1 (10 + y2) v15 ev15) cw111 hs16 0 9 rfl rfl rfl hl.1 rfl (Nat.le_of_ble_eq_true rfl) dX9_setArgument_108 ⟨Nat.zero_le _, Nat.zero_le _⟩ ?_
          refine lv_iload hx hb dX9_setArgument_111 (lv_at hl 5 rfl) ?_
          obtain ⟨g17, ig17, eg17, h⟩ := wr_some h
          refine kAst hx hb hKK hP hD hS 1 rfl ig17 eg17 dX9_setArgument_113 (fun H locs hP hD hS => ?_)
          have hP : va_P D vwCl (W_z cI cM a_z a_z_s a_z_past a_z_keeps a_z_entryKey a_z_entryDefault a_z_held a_z_values a_z_kinds a_z_news g17 g9 g10 g11 z_entries z_keeps z_entryKey z_entryDefault z_counter z_held z_values z_kinds z_news) H := hP
          have hD : va_D _ (W_z cI cM a_z a_z_s a_z_past a_z_keeps a_z_entryKey a_z_entryDefault a_z_held a_z_values a_z_kinds a_z_news g17 g9 g10 g11 z_entries z_keeps z_entryKey z_entryDefault z_counter z_held z_values z_kinds z_news) := hD
          refine lv_iload hx hb dX9_setArgument_114 (lv_at hl 0 rfl) ?_
          simp only [Option.some.injEq, Prod.mk.injEq] at h
          obtain ⟨e0, e1, e2, e3, e4⟩ := h
          exact kRetI hx hb hr hlk e0 (by rw [← hw1, ← e1, ← e2, ← e3, ← e4]; exact hP) hS dX9_setArgument_116
        · have h := ifp h c8
          refine lv_bipush (v := (-2)) hx hb dX9_setArgument_77 (by decide) ?_
          simp only [Option.some.injEq, Prod.mk.injEq] at h
          obtain ⟨e0, e1, e2, e3, e4⟩ := h
          exact kRetI hx hb hr hlk e0 (by rw [← hw1, ← e1, ← e2, ← e3, ← e4]; exact hP) hS dX9_setArgument_79
    · have h := ifp h c2
      refine lv_iconst (v := (-1)) hx hb dX9_setArgument_46 (by decide) ?_
      simp only [Option.some.injEq, Prod.mk.injEq] at h
      obtain ⟨e0, e1, e2, e3, e4⟩ := h
      exact kRetI hx hb hr hlk e0 (by rw [← hw1, ← e1, ← e2, ← e3, ← e4]; exact hP) hS dX9_setArgument_47
  have F30 : ∀ (H : Heap) (locs : List Loc) (z_s : Nat → Int32) (z_past : Nat → Int32) (z_pasts : Int32) (z_changed : Int32) (y1 : Int32) (y2 : Int32) (y3 : Int32) (y4 : Int32) (s0 : Int32) (s1 : Int32), jX9_setArgument_30  z_s z_past z_pasts z_changed y1 y2 y3 y4 s0 s1 = some (r, r_z_s, r_z_past, r_z_pasts, r_z_changed) → va_P D vwCl (W_z cI cM a_z a_z_s a_z_past a_z_keeps a_z_entryKey a_z_entryDefault a_z_held a_z_values a_z_kinds a_z_news z_s z_past z_pasts z_changed z_entries z_keeps z_entryKey z_entryDefault z_counter z_held z_values z_kinds z_news) H → va_D (fun q => q ∈ (w0).map (·.1)) (W_z cI cM a_z a_z_s a_z_past a_z_keeps a_z_entryKey a_z_entryDefault a_z_held a_z_values a_z_kinds a_z_news z_s z_past z_pasts z_changed z_entries z_keeps z_entryKey z_entryDefault z_counter z_held z_values z_kinds z_news) → va_S (fun q => q ∈ (w0).map (·.1)) s.heap H locs → ∀ ls : Array Slot, lv_has ls 6 [(0, .ref a_z), (1, .int y1), (2, .int y2), (3, .int y3), (4, .int y4)] → WI p l e rmX9_setArgument s m av below meth c D w0 w1 (some (.int r)) H locs 30 ls [.int s1, .int s0] := by
    intro H locs z_s z_past z_pasts z_changed y1 y2 y3 y4 s0 s1 h hP hD hS ls hl
    unfold jX9_setArgument_30 at h
    refine lv_iload_n hx hb dX9_setArgument_30 rfl (lv_at hl 3 rfl) ?_
    refine lv_if_ne (tgt := 39) hx hb dX9_setArgument_31 (by decide) (fun c1 => ?_) (fun c1 => ?_)
    · have h := ifn h c1
      refine lv_iconst (v := 0) hx hb dX9_setArgument_39 (by decide) ?_
      exact F40 H locs z_s z_past z_pasts z_changed y1 y2 y3 y4 s0 s1 0 h hP hD hS ls (lv_sub (l' := [(0, .ref a_z), (1, .int y1), (2, .int y2), (3, .int y3), (4, .int y4)]) hl [0, 1, 2, 3, 4] rfl)
    · have h := ifp h c1
      refine lv_bipush (v := 99) hx hb dX9_setArgument_34 (by decide) ?_
      refine lv_goto (tgt := 40) hx hb dX9_setArgument_36 (by decide) ?_
      exact F40 H locs z_s z_past z_pasts z_changed y1 y2 y3 y4 s0 s1 99 h hP hD hS ls (lv_sub (l' := [(0, .ref a_z), (1, .int y1), (2, .int y2), (3, .int y3), (4, .int y4)]) hl [0, 1, 2, 3, 4] rfl)
  unfold fX9_setArgument at h
  refine lv_aload_n hx hb dX9_setArgument_0 rfl (lv_at hl 0 rfl) ?_
  refine lv_iload_n hx hb dX9_setArgument_1 rfl (lv_at hl 1 rfl) ?_
  refine lv_iload_n hx hb dX9_setArgument_2 rfl (lv_at hl 2 rfl) ?_
  obtain ⟨v1, ev1, h⟩ := bn_some h
  have hs2 : va_P D vwCl (W_z cI cM a_z a_z_s a_z_past a_z_keeps a_z_entryKey a_z_entryDefault a_z_held a_z_values a_z_kinds a_z_news z_s z_past z_pasts z_changed z_entries z_keeps z_entryKey z_entryDefault z_counter z_held z_values z_kinds z_news) _ := hP.sub (ws' := W_z cI cM a_z a_z_s a_z_past a_z_keeps a_z_entryKey a_z_entryDefault a_z_held a_z_values a_z_kinds a_z_news z_s z_past z_pasts z_changed z_entries z_keeps z_entryKey z_entryDefault z_counter z_held z_values z_kinds z_news) [0, 1, 2, 3, 4, 5, 6, 7, 8, 9] rfl
  refine kV (As := [.int x1, .int x2]) (rest := []) SS hKK (qX9_isArgument l D cI cM a_z a_z_s a_z_past a_z_keeps a_z_entryKey a_z_entryDefault a_z_held a_z_values a_z_kinds a_z_news z_s z_past z_pasts z_changed z_entries z_keeps z_entryKey z_entryDefault z_counter z_held z_values z_kinds z_news x1 x2 v1 ev1) cw120 hs2 0 9 rfl rfl rfl hl.1 rfl (Nat.le_of_ble_eq_true rfl) dX9_setArgument_3 ⟨Nat.zero_le _, Nat.zero_le _⟩ ?_
  refine lv_if_eq (tgt := 46) hx hb dX9_setArgument_6 (by decide) (fun c3 => ?_) (fun c3 => ?_)
  · have h := ifp h c3
    refine lv_iconst (v := (-1)) hx hb dX9_setArgument_46 (by decide) ?_
    simp only [Option.some.injEq, Prod.mk.injEq] at h
    obtain ⟨e0, e1, e2, e3, e4⟩ := h
    exact kRetI hx hb hr hlk e0 (by rw [← hw1, ← e1, ← e2, ← e3, ← e4]; exact hP) hS dX9_setArgument_47
  · have h := ifn h c3
    refine lv_iload_n hx hb dX9_setArgument_9 rfl (lv_at hl 3 rfl) ?_
    refine lv_iconst (v := 0) hx hb dX9_setArgument_10 (by decide) ?_
    refine lv_iconst (v := 2) hx hb dX9_setArgument_11 (by decide) ?_
    obtain ⟨v4, ev4, h⟩ := bn_some h
    refine kS (As := [.int x3, .int 0, .int 2]) (rest := []) SS hKK (qX9_in l D cI cM x3 0 2 v4 ev4) cw44 va_P_nil rfl hl.1 rfl (Nat.le_of_ble_eq_true rfl) dX9_setArgument_12 ⟨Nat.zero_le _, Nat.zero_le _⟩ ?_
    refine lv_if_eq (tgt := 46) hx hb dX9_setArgument_15 (by decide) (fun c5 => ?_) (fun c5 => ?_)
    · have h := ifp h c5
      refine lv_iconst (v := (-1)) hx hb dX9_setArgument_46 (by decide) ?_
      simp only [Option.some.injEq, Prod.mk.injEq] at h
      obtain ⟨e0, e1, e2, e3, e4⟩ := h
      exact kRetI hx hb hr hlk e0 (by rw [← hw1, ← e1, ← e2, ← e3, ← e4]; exact hP) hS dX9_setArgument_47
    · have h := ifn h c5
      refine lv_iload hx hb dX9_setArgument_18 (lv_at hl 4 rfl) ?_
      refine lv_iload_n hx hb dX9_setArgument_20 rfl (lv_at hl 3 rfl) ?_
      refine lv_if_ne (tgt := 29) hx hb dX9_setArgument_21 (by decide) (fun c6 => ?_) (fun c6 => ?_)
      · have h := ifn h c6
        refine lv_iconst (v := 0) hx hb dX9_setArgument_29 (by decide) ?_
        exact F30 s.heap [] z_s z_past z_pasts z_changed x1 x2 x3 x4 x4 0 h hP hD hS ls (lv_sub (l' := [(0, .ref a_z), (1, .int x1), (2, .int x2), (3, .int x3), (4, .int x4)]) hl [0, 1, 2, 3, 4] rfl)
      · have h := ifp h c6
        refine lv_bipush (v := (-99)) hx hb dX9_setArgument_24 (by decide) ?_
        refine lv_goto (tgt := 30) hx hb dX9_setArgument_26 (by decide) ?_
        exact F30 s.heap [] z_s z_past z_pasts z_changed x1 x2 x3 x4 x4 (-99) h hP hD hS ls (lv_sub (l' := [(0, .ref a_z), (1, .int x1), (2, .int x2), (3, .int x3), (4, .int x4)]) hl [0, 1, 2, 3, 4] rfl)
set_option maxHeartbeats 8000000 in
set_option maxRecDepth 100000 in
theorem qX9_isUpToDate (l : Launch) (D : va_G) (cI cM : ClassId) (a_z a_z_s a_z_past a_z_keeps a_z_entryKey a_z_entryDefault a_z_held a_z_values a_z_kinds a_z_news : Nat) (z_s : Nat → Int32) (z_past : Nat → Int32) (z_pasts : Int32) (z_changed : Int32) (z_entries : Int32) (z_keeps : Nat → Int32) (z_entryKey : Nat → Int32) (z_entryDefault : Nat → Int32) (z_counter : Int32) (z_held : Nat → Int32) (z_values : Nat → Int32) (z_kinds : Nat → Int32) (z_news : Nat → Int32) (x1 : Int32) (r : Int32) (h : fX9_isUpToDate z_s x1 = some r) : PM l yX9_isUpToDate wsX9_isUpToDate rmX9_isUpToDate D cI cM [.ref a_z, .int x1] (W_z cI cM a_z a_z_s a_z_past a_z_keeps a_z_entryKey a_z_entryDefault a_z_held a_z_values a_z_kinds a_z_news z_s z_past z_pasts z_changed z_entries z_keeps z_entryKey z_entryDefault z_counter z_held z_values z_kinds z_news) r := by
  refine PM.of (cc := cX9_isUpToDate) (maxL := 6) (ret := (some .boolean)) (by decide) rfl (Nat.le_of_ble_eq_true rfl) ?_
  intro p e s m below meth c ls hx hb hr hml hown hts hlk hP hKK hl
  have hown : s.vm.findClass RX9 = some m.cls := hown
  have hl : lv_has ls 6 [(0, .ref a_z), (1, .int x1)] := hl
  generalize hav : ([.ref a_z, .int x1] : List Value) = av at hts ⊢
  have SS : CallFix p m c cX9_isUpToDate 6 s av.toArray wsX9_isUpToDate RX9 := ⟨hx, hb, hml, hown, hts⟩
  have hinX9 : ∀ w ∈ u_ws RX9 TX9 13, w ∈ wsX9_isUpToDate := by decide +kernel
  have lk7 := hts (.fieldLink RX9 7 "SignatureChangerModel" "s" "[I") (List.mem_of_getElem? (i := 1) rfl)
  have cw63 : CallW rmX9_isUpToDate s av.toArray RX9 RX9 63 yX9_of cX9_of 3 (some .int) wsX9_of rmX9_of 0 0 2 := cwV 2 hts gX9_isUpToDate_X9_of rfl rfl rfl (by decide +kernel) ⟨Nat.le_of_ble_eq_true rfl, Nat.le_of_ble_eq_true rfl⟩
  have cw111 : CallW rmX9_isUpToDate s av.toArray RX9 RX9 111 yX9_at cX9_at 3 (some .int) wsX9_at rmX9_at 0 0 2 := cwV 2 hts gX9_isUpToDate_X9_at rfl rfl rfl (by decide +kernel) ⟨Nat.le_of_ble_eq_true rfl, Nat.le_of_ble_eq_true rfl⟩
  have F87 : ∀ (k44 : Int32 → Int32 → Int32 → Int32 → Int32 → Option (Int32)) (hk44 : ∀ (u1 : Int32) (u2 : Int32) (u3 : Int32) (u4 : Int32) (u5 : Int32), k44 u1 u2 u3 u4 u5 = some r → ∀ ls : Array Slot, lv_has ls 6 [(0, .ref a_z), (1, .int u1), (2, .int u2), (3, .int u3), (4, .int u4), (5, .int u5)] → WP p l e rmX9_isUpToDate s m av below meth c r 44 ls []), ∀ (y1 : Int32) (y2 : Int32) (y3 : Int32) (y5 : Int32) (s0 : Int32), jX9_isUpToDate_87 z_s k44 y1 y2 y3 y5 s0 = some r → ∀ ls : Array Slot, lv_has ls 6 [(0, .ref a_z), (1, .int y1), (2, .int y2), (3, .int y3), (5, .int y5)] → WP p l e rmX9_isUpToDate s m av below meth c r 87 ls [.int s0] := by
    intro k44 hk44
    intro y1 y2 y3 y5 s0 h ls hl
    unfold jX9_isUpToDate_87 at h
    refine lv_istore (lv' := [(4, .int s0), (0, .ref a_z), (1, .int y1), (2, .int y2), (3, .int y3), (5, .int y5)]) hx hb dX9_isUpToDate_87 hl (by decide) rfl (fun ls hl => ?_)
    refine lv_iinc (v := y5 + 1) (lv' := [(5, .int (y5 + 1)), (4, .int s0), (0, .ref a_z), (1, .int y1), (2, .int y2), (3, .int y3)]) hx hb dX9_isUpToDate_89 hl (k := 5) rfl rfl (by decide) rfl (fun ls hl => ?_)
    refine lv_goto (tgt := 44) hx hb dX9_isUpToDate_92 (by decide) ?_
    exact hk44 y1 y2 y3 s0 (y5 + 1) h ls (lv_sub (l' := [(0, .ref a_z), (1, .int y1), (2, .int y2), (3, .int y3), (4, .int s0), (5, .int (y5 + 1))]) hl [2, 3, 4, 5, 1, 0] rfl)
  have F44 : ∀ (n : Nat) (y1 : Int32) (y2 : Int32) (y3 : Int32) (y4 : Int32) (y5 : Int32), lX9_isUpToDate_44 z_s n y1 y2 y3 y4 y5 = some r → ∀ ls : Array Slot, lv_has ls 6 [(0, .ref a_z), (1, .int y1), (2, .int y2), (3, .int y3), (4, .int y4), (5, .int y5)] → WP p l e rmX9_isUpToDate s m av below meth c r 44 ls [] := by
    intro n
    induction n with
    | zero => intro y1 y2 y3 y4 y5 h; exact no_some h
    | succ n ih =>
      intro y1 y2 y3 y4 y5 h ls hl
      rw [lX9_isUpToDate_44_s] at h
      refine lv_iload hx hb dX9_isUpToDate_44 (lv_at hl 5 rfl) ?_
      refine lv_iload_n hx hb dX9_isUpToDate_46 rfl (lv_at hl 3 rfl) ?_
      refine lv_icmp_ge (tgt := 95) hx hb dX9_isUpToDate_47 (by decide) (fun c1 => ?_) (fun c1 => ?_)
      · have h := ifp h c1
        refine lv_iload hx hb dX9_isUpToDate_95 (lv_at hl 4 rfl) ?_
        exact kRetZ hx hb hr hlk (rb_some h).2 (rb_some h).1 dX9_isUpToDate_97
      · have h := ifn h c1
        refine lv_iload hx hb dX9_isUpToDate_50 (lv_at hl 4 rfl) ?_
        refine lv_if_eq (tgt := 95) hx hb dX9_isUpToDate_52 (by decide) (fun c2 => ?_) (fun c2 => ?_)
        · have h := ifp h c2
          refine lv_iload hx hb dX9_isUpToDate_95 (lv_at hl 4 rfl) ?_
          exact kRetZ hx hb hr hlk (rb_some h).2 (rb_some h).1 dX9_isUpToDate_97
        · have h := ifn h c2
          refine lv_aload_n hx hb dX9_isUpToDate_55 rfl (lv_at hl 0 rfl) ?_
          refine va_get (D := D) (ci := 9) (v := .ref a_z_s) (C := RX9) (T := TX9) (N := 13) hx hb hts hinX9 hown hKK.1 hP 0 rfl rfl 0 (by decide) lk7 (fun _ h9 => h9) rfl dX9_isUpToDate_56 ?_
          refine lv_aload_n hx hb dX9_isUpToDate_59 rfl (lv_at hl 0 rfl) ?_
          refine lv_iload_n hx hb dX9_isUpToDate_60 rfl (lv_at hl 1 rfl) ?_
          refine lv_bipush (v := 15) hx hb dX9_isUpToDate_61 (by decide) ?_
          refine lv_iload hx hb dX9_isUpToDate_63 (lv_at hl 5 rfl) ?_
          refine lv_iadd hx hb dX9_isUpToDate_65 ?_
          obtain ⟨v3, ev3, h⟩ := bn_some h
          have hs4 : va_P D vwCl (W_z cI cM a_z a_z_s a_z_past a_z_keeps a_z_entryKey a_z_entryDefault a_z_held a_z_values a_z_kinds a_z_news z_s z_past z_pasts z_changed z_entries z_keeps z_entryKey z_entryDefault z_counter z_held z_values z_kinds z_news) _ := hP.sub (ws' := W_z cI cM a_z a_z_s a_z_past a_z_keeps a_z_entryKey a_z_entryDefault a_z_held a_z_values a_z_kinds a_z_news z_s z_past z_pasts z_changed z_entries z_keeps z_entryKey z_entryDefault z_counter z_held z_values z_kinds z_news) [0, 1, 2, 3, 4, 5, 6, 7, 8, 9] rfl
          refine kV (As := [.int y1, .int (15 + y5)]) (rest := [.ref a_z_s]) SS hKK (qX9_at l D cI cM a_z a_z_s a_z_past a_z_keeps a_z_entryKey a_z_entryDefault a_z_held a_z_values a_z_kinds a_z_news z_s z_past z_pasts z_changed z_entries z_keeps z_entryKey z_entryDefault z_counter z_held z_values z_kinds z_news y1 (15 + y5) v3 ev3) cw111 hs4 0 9 rfl rfl rfl hl.1 rfl (Nat.le_of_ble_eq_true rfl) dX9_isUpToDate_66 ⟨Nat.zero_le _, Nat.zero_le _⟩ ?_
          obtain ⟨v5, iv5, ev5, h⟩ := rd_some h
          refine kAld hx hb hKK hP 1 rfl iv5 ev5 dX9_isUpToDate_69 ?_
          refine lv_aload_n hx hb dX9_isUpToDate_70 rfl (lv_at hl 0 rfl) ?_
          refine lv_iload_n hx hb dX9_isUpToDate_71 rfl (lv_at hl 2 rfl) ?_
          refine lv_iconst (v := 3) hx hb dX9_isUpToDate_72 (by decide) ?_
          refine lv_iload hx hb dX9_isUpToDate_73 (lv_at hl 5 rfl) ?_
          refine lv_iadd hx hb dX9_isUpToDate_75 ?_
          obtain ⟨v6, ev6, h⟩ := bn_some h
          refine kV (As := [.int y2, .int (3 + y5)]) (rest := [.int v5]) SS hKK (qX9_of l D cI cM a_z a_z_s a_z_past a_z_keeps a_z_entryKey a_z_entryDefault a_z_held a_z_values a_z_kinds a_z_news z_s z_past z_pasts z_changed z_entries z_keeps z_entryKey z_entryDefault z_counter z_held z_values z_kinds z_news y2 (3 + y5) v6 ev6) cw63 hs4 0 9 rfl rfl rfl hl.1 rfl (Nat.le_of_ble_eq_true rfl) dX9_isUpToDate_76 ⟨Nat.zero_le _, Nat.zero_le _⟩ ?_
          refine lv_icmp_ne (tgt := 86) hx hb dX9_isUpToDate_79 (by decide) (fun c7 => ?_) (fun c7 => ?_)
          · have h := ifn h c7
            refine lv_iconst (v := 0) hx hb dX9_isUpToDate_86 (by decide) ?_
            exact F87 (fun u1 u2 u3 u4 u5 => lX9_isUpToDate_44 z_s n u1 u2 u3 u4 u5) (fun u1 u2 u3 u4 u5 h ls hl => ih u1 u2 u3 u4 u5 h ls hl) y1 y2 y3 y5 0 h ls (lv_sub (l' := [(0, .ref a_z), (1, .int y1), (2, .int y2), (3, .int y3), (5, .int y5)]) hl [0, 1, 2, 3, 5] rfl)
          · have h := ifp h c7
            refine lv_iconst (v := 1) hx hb dX9_isUpToDate_82 (by decide) ?_
            refine lv_goto (tgt := 87) hx hb dX9_isUpToDate_83 (by decide) ?_
            exact F87 (fun u1 u2 u3 u4 u5 => lX9_isUpToDate_44 z_s n u1 u2 u3 u4 u5) (fun u1 u2 u3 u4 u5 h ls hl => ih u1 u2 u3 u4 u5 h ls hl) y1 y2 y3 y5 1 h ls (lv_sub (l' := [(0, .ref a_z), (1, .int y1), (2, .int y2), (3, .int y3), (5, .int y5)]) hl [0, 1, 2, 3, 5] rfl)
  have F39 : ∀ (y1 : Int32) (y2 : Int32) (y3 : Int32) (s0 : Int32), jX9_isUpToDate_39 z_s y1 y2 y3 s0 = some r → ∀ ls : Array Slot, lv_has ls 6 [(0, .ref a_z), (1, .int y1), (2, .int y2), (3, .int y3)] → WP p l e rmX9_isUpToDate s m av below meth c r 39 ls [.int s0] := by
    intro y1 y2 y3 s0 h ls hl
    unfold jX9_isUpToDate_39 at h
    refine lv_istore (lv' := [(4, .int s0), (0, .ref a_z), (1, .int y1), (2, .int y2), (3, .int y3)]) hx hb dX9_isUpToDate_39 hl (by decide) rfl (fun ls hl => ?_)
    refine lv_iconst (v := 0) hx hb dX9_isUpToDate_41 (by decide) ?_
    refine lv_istore (lv' := [(5, .int 0), (4, .int s0), (0, .ref a_z), (1, .int y1), (2, .int y2), (3, .int y3)]) hx hb dX9_isUpToDate_42 hl (by decide) rfl (fun ls hl => ?_)
    exact F44 5000 y1 y2 y3 s0 0 h ls (lv_sub (l' := [(0, .ref a_z), (1, .int y1), (2, .int y2), (3, .int y3), (4, .int s0), (5, .int 0)]) hl [2, 3, 4, 5, 1, 0] rfl)
  unfold fX9_isUpToDate at h
  refine lv_aload_n hx hb dX9_isUpToDate_0 rfl (lv_at hl 0 rfl) ?_
  refine va_get (D := D) (ci := 9) (v := .ref a_z_s) (C := RX9) (T := TX9) (N := 13) hx hb hts hinX9 hown hKK.1 hP 0 rfl rfl 0 (by decide) lk7 (fun _ h9 => h9) rfl dX9_isUpToDate_1 ?_
  refine lv_aload_n hx hb dX9_isUpToDate_4 rfl (lv_at hl 0 rfl) ?_
  refine lv_iload_n hx hb dX9_isUpToDate_5 rfl (lv_at hl 1 rfl) ?_
  refine lv_iconst (v := 2) hx hb dX9_isUpToDate_6 (by decide) ?_
  obtain ⟨v1, ev1, h⟩ := bn_some h
  have hs2 : va_P D vwCl (W_z cI cM a_z a_z_s a_z_past a_z_keeps a_z_entryKey a_z_entryDefault a_z_held a_z_values a_z_kinds a_z_news z_s z_past z_pasts z_changed z_entries z_keeps z_entryKey z_entryDefault z_counter z_held z_values z_kinds z_news) _ := hP.sub (ws' := W_z cI cM a_z a_z_s a_z_past a_z_keeps a_z_entryKey a_z_entryDefault a_z_held a_z_values a_z_kinds a_z_news z_s z_past z_pasts z_changed z_entries z_keeps z_entryKey z_entryDefault z_counter z_held z_values z_kinds z_news) [0, 1, 2, 3, 4, 5, 6, 7, 8, 9] rfl
  refine kV (As := [.int x1, .int 2]) (rest := [.ref a_z_s]) SS hKK (qX9_at l D cI cM a_z a_z_s a_z_past a_z_keeps a_z_entryKey a_z_entryDefault a_z_held a_z_values a_z_kinds a_z_news z_s z_past z_pasts z_changed z_entries z_keeps z_entryKey z_entryDefault z_counter z_held z_values z_kinds z_news x1 2 v1 ev1) cw111 hs2 0 9 rfl rfl rfl hl.1 rfl (Nat.le_of_ble_eq_true rfl) dX9_isUpToDate_7 ⟨Nat.zero_le _, Nat.zero_le _⟩ ?_
  obtain ⟨v3, iv3, ev3, h⟩ := rd_some h
  refine kAld hx hb hKK hP 1 rfl iv3 ev3 dX9_isUpToDate_10 ?_
  refine lv_istore_n (lv' := [(2, .int v3), (0, .ref a_z), (1, .int x1)]) hx hb dX9_isUpToDate_11 rfl hl (by decide) rfl (fun ls hl => ?_)
  refine lv_aload_n hx hb dX9_isUpToDate_12 rfl (lv_at hl 1 rfl) ?_
  refine va_get (D := D) (ci := 9) (v := .ref a_z_s) (C := RX9) (T := TX9) (N := 13) hx hb hts hinX9 hown hKK.1 hP 0 rfl rfl 0 (by decide) lk7 (fun _ h9 => h9) rfl dX9_isUpToDate_13 ?_
  refine lv_aload_n hx hb dX9_isUpToDate_16 rfl (lv_at hl 1 rfl) ?_
  refine lv_iload_n hx hb dX9_isUpToDate_17 rfl (lv_at hl 2 rfl) ?_
  refine lv_iconst (v := 4) hx hb dX9_isUpToDate_18 (by decide) ?_
  obtain ⟨v4, ev4, h⟩ := bn_some h
  refine kV (As := [.int x1, .int 4]) (rest := [.ref a_z_s]) SS hKK (qX9_at l D cI cM a_z a_z_s a_z_past a_z_keeps a_z_entryKey a_z_entryDefault a_z_held a_z_values a_z_kinds a_z_news z_s z_past z_pasts z_changed z_entries z_keeps z_entryKey z_entryDefault z_counter z_held z_values z_kinds z_news x1 4 v4 ev4) cw111 hs2 0 9 rfl rfl rfl hl.1 rfl (Nat.le_of_ble_eq_true rfl) dX9_isUpToDate_19 ⟨Nat.zero_le _, Nat.zero_le _⟩ ?_
  obtain ⟨v5, iv5, ev5, h⟩ := rd_some h
  refine kAld hx hb hKK hP 1 rfl iv5 ev5 dX9_isUpToDate_22 ?_
  refine lv_istore_n (lv' := [(3, .int v5), (2, .int v3), (0, .ref a_z), (1, .int x1)]) hx hb dX9_isUpToDate_23 rfl hl (by decide) rfl (fun ls hl => ?_)
  refine lv_iload_n hx hb dX9_isUpToDate_24 rfl (lv_at hl 0 rfl) ?_
  refine lv_aload_n hx hb dX9_isUpToDate_25 rfl (lv_at hl 2 rfl) ?_
  refine lv_iload_n hx hb dX9_isUpToDate_26 rfl (lv_at hl 1 rfl) ?_
  refine lv_iconst (v := 2) hx hb dX9_isUpToDate_27 (by decide) ?_
  obtain ⟨v6, ev6, h⟩ := bn_some h
  refine kV (As := [.int v3, .int 2]) (rest := [.int v5]) SS hKK (qX9_of l D cI cM a_z a_z_s a_z_past a_z_keeps a_z_entryKey a_z_entryDefault a_z_held a_z_values a_z_kinds a_z_news z_s z_past z_pasts z_changed z_entries z_keeps z_entryKey z_entryDefault z_counter z_held z_values z_kinds z_news v3 2 v6 ev6) cw63 hs2 0 9 rfl rfl rfl hl.1 rfl (Nat.le_of_ble_eq_true rfl) dX9_isUpToDate_28 ⟨Nat.zero_le _, Nat.zero_le _⟩ ?_
  refine lv_icmp_ne (tgt := 38) hx hb dX9_isUpToDate_31 (by decide) (fun c7 => ?_) (fun c7 => ?_)
  · have h := ifn h c7
    refine lv_iconst (v := 0) hx hb dX9_isUpToDate_38 (by decide) ?_
    exact F39 x1 v3 v5 0 h ls (lv_sub (l' := [(0, .ref a_z), (1, .int x1), (2, .int v3), (3, .int v5)]) hl [2, 3, 1, 0] rfl)
  · have h := ifp h c7
    refine lv_iconst (v := 1) hx hb dX9_isUpToDate_34 (by decide) ?_
    refine lv_goto (tgt := 39) hx hb dX9_isUpToDate_35 (by decide) ?_
    exact F39 x1 v3 v5 1 h ls (lv_sub (l' := [(0, .ref a_z), (1, .int x1), (2, .int v3), (3, .int v5)]) hl [2, 3, 1, 0] rfl)
