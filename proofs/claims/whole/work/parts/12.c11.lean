/-! generated: X9.mayHoist X9.hoistedOf X9.hoistedArguments X9.isServed X9.areSufficient X9.declaringTypes X9.bridgeTypes X9.hasSameKeys X9.isBarred X9.hasRoom X9.rewrite X9.change X9.applyChange -/
set_option maxHeartbeats 8000000 in
set_option maxRecDepth 100000 in
theorem qX9_mayHoist (l : Launch) (D : va_G) (cI cM : ClassId) (a_z a_z_s a_z_past a_z_keeps a_z_entryKey a_z_entryDefault a_z_held a_z_values a_z_kinds a_z_news : Nat) (z_s : Nat → Int32) (z_past : Nat → Int32) (z_pasts : Int32) (z_changed : Int32) (z_entries : Int32) (z_keeps : Nat → Int32) (z_entryKey : Nat → Int32) (z_entryDefault : Nat → Int32) (z_counter : Int32) (z_held : Nat → Int32) (z_values : Nat → Int32) (z_kinds : Nat → Int32) (z_news : Nat → Int32) (x1 : Int32) (x2 : Int32) (r : Int32) (h : fX9_mayHoist z_s z_entries z_keeps x1 x2 = some r) : PM l yX9_mayHoist wsX9_mayHoist rmX9_mayHoist D cI cM [.ref a_z, .int x1, .int x2] (W_z cI cM a_z a_z_s a_z_past a_z_keeps a_z_entryKey a_z_entryDefault a_z_held a_z_values a_z_kinds a_z_news z_s z_past z_pasts z_changed z_entries z_keeps z_entryKey z_entryDefault z_counter z_held z_values z_kinds z_news) r := by
  refine PM.of (cc := cX9_mayHoist) (maxL := 11) (ret := (some .boolean)) (by decide) rfl (Nat.le_of_ble_eq_true rfl) ?_
  intro p e s m below meth c ls hx hb hr hml hown hts hlk hP hKK hl
  have hown : s.vm.findClass RX9 = some m.cls := hown
  have hl : lv_has ls 11 [(0, .ref a_z), (1, .int x1), (2, .int x2)] := hl
  generalize hav : ([.ref a_z, .int x1, .int x2] : List Value) = av at hts ⊢
  have SS : CallFix p m c cX9_mayHoist 11 s av.toArray wsX9_mayHoist RX9 := ⟨hx, hb, hml, hown, hts⟩
  have hinX9 : ∀ w ∈ u_ws RX9 TX9 13, w ∈ wsX9_mayHoist := by decide +kernel
  have lk7 := hts (.fieldLink RX9 7 "SignatureChangerModel" "s" "[I") (List.mem_of_getElem? (i := 1) rfl)
  have cw48 : CallB rmX9_mayHoist s av.toArray RX9 48 yX9_has cX9_has 2 (some .boolean) wsX9_has rmX9_has 0 0 2 ∧ (Cond.static yX9_has).before av.toArray s = true := va_cwS 2 hts gX9_mayHoist_X9_has rfl rfl rfl (by decide +kernel) ⟨Nat.le_of_ble_eq_true rfl, Nat.le_of_ble_eq_true rfl⟩
  have cw111 : CallW rmX9_mayHoist s av.toArray RX9 RX9 111 yX9_at cX9_at 3 (some .int) wsX9_at rmX9_at 0 0 2 := cwV 2 hts gX9_mayHoist_X9_at rfl rfl rfl (by decide +kernel) ⟨Nat.le_of_ble_eq_true rfl, Nat.le_of_ble_eq_true rfl⟩
  have cw157 : CallW rmX9_mayHoist s av.toArray RX9 RX9 157 yX9_entryOf cX9_entryOf 3 (some .int) wsX9_entryOf rmX9_entryOf 0 0 1 := cwV 1 hts gX9_mayHoist_X9_entryOf rfl rfl rfl (by decide +kernel) ⟨Nat.le_of_ble_eq_true rfl, Nat.le_of_ble_eq_true rfl⟩
  have cw169 : CallW rmX9_mayHoist s av.toArray RX9 RX9 169 yX9_kindOf cX9_kindOf 3 (some .int) wsX9_kindOf rmX9_kindOf 0 0 2 := cwV 2 hts gX9_mayHoist_X9_kindOf rfl rfl rfl (by decide +kernel) ⟨Nat.le_of_ble_eq_true rfl, Nat.le_of_ble_eq_true rfl⟩
  have cw172 : CallW rmX9_mayHoist s av.toArray RX9 RX9 172 yX9_doesCount cX9_doesCount 3 (some .boolean) wsX9_doesCount rmX9_doesCount 0 0 2 := cwV 2 hts gX9_mayHoist_X9_doesCount rfl rfl rfl (by decide +kernel) ⟨Nat.le_of_ble_eq_true rfl, Nat.le_of_ble_eq_true rfl⟩
  have cw175 : CallW rmX9_mayHoist s av.toArray RX9 RX9 175 yX9_turnOf cX9_turnOf 3 (some .int) wsX9_turnOf rmX9_turnOf 0 0 2 := cwV 2 hts gX9_mayHoist_X9_turnOf rfl rfl rfl (by decide +kernel) ⟨Nat.le_of_ble_eq_true rfl, Nat.le_of_ble_eq_true rfl⟩
  have F246 : ∀ (k18 : Int32 → Int32 → Int32 → Int32 → Int32 → Option (Int32)) (k122 : Int32 → Int32 → Int32 → Int32 → Int32 → Int32 → Option (Int32)) (hk18 : ∀ (u1 : Int32) (u2 : Int32) (u3 : Int32) (u4 : Int32) (u5 : Int32), k18 u1 u2 u3 u4 u5 = some r → ∀ ls : Array Slot, lv_has ls 11 [(0, .ref a_z), (1, .int u1), (2, .int u2), (3, .int u3), (4, .int u4), (5, .int u5)] → WP p l e rmX9_mayHoist s m av below meth c r 18 ls []) (hk122 : ∀ (u1 : Int32) (u2 : Int32) (u3 : Int32) (u4 : Int32) (u5 : Int32) (u8 : Int32), k122 u1 u2 u3 u4 u5 u8 = some r → ∀ ls : Array Slot, lv_has ls 11 [(0, .ref a_z), (1, .int u1), (2, .int u2), (3, .int u3), (4, .int u4), (5, .int u5), (8, .int u8)] → WP p l e rmX9_mayHoist s m av below meth c r 122 ls []), ∀ (y1 : Int32) (y2 : Int32) (y3 : Int32) (y5 : Int32) (y8 : Int32) (s0 : Int32), jX9_mayHoist_246 z_s z_entries z_keeps k18 k122 y1 y2 y3 y5 y8 s0 = some r → ∀ ls : Array Slot, lv_has ls 11 [(0, .ref a_z), (1, .int y1), (2, .int y2), (3, .int y3), (5, .int y5), (8, .int y8)] → WP p l e rmX9_mayHoist s m av below meth c r 246 ls [.int s0] := by
    intro k18 k122 hk18 hk122
    intro y1 y2 y3 y5 y8 s0 h ls hl
    unfold jX9_mayHoist_246 at h
    refine lv_istore (lv' := [(4, .int s0), (0, .ref a_z), (1, .int y1), (2, .int y2), (3, .int y3), (5, .int y5), (8, .int y8)]) hx hb dX9_mayHoist_246 hl (by decide) rfl (fun ls hl => ?_)
    refine lv_iinc (v := y8 + 1) (lv' := [(8, .int (y8 + 1)), (4, .int s0), (0, .ref a_z), (1, .int y1), (2, .int y2), (3, .int y3), (5, .int y5)]) hx hb dX9_mayHoist_248 hl (k := 6) rfl rfl (by decide) rfl (fun ls hl => ?_)
    refine lv_goto (tgt := 122) hx hb dX9_mayHoist_251 (by decide) ?_
    exact hk122 y1 y2 y3 s0 y5 (y8 + 1) h ls (lv_sub (l' := [(0, .ref a_z), (1, .int y1), (2, .int y2), (3, .int y3), (4, .int s0), (5, .int y5), (8, .int (y8 + 1))]) hl [2, 3, 4, 5, 1, 6, 0] rfl)
  have F245 : ∀ (k18 : Int32 → Int32 → Int32 → Int32 → Int32 → Option (Int32)) (k122 : Int32 → Int32 → Int32 → Int32 → Int32 → Int32 → Option (Int32)) (hk18 : ∀ (u1 : Int32) (u2 : Int32) (u3 : Int32) (u4 : Int32) (u5 : Int32), k18 u1 u2 u3 u4 u5 = some r → ∀ ls : Array Slot, lv_has ls 11 [(0, .ref a_z), (1, .int u1), (2, .int u2), (3, .int u3), (4, .int u4), (5, .int u5)] → WP p l e rmX9_mayHoist s m av below meth c r 18 ls []) (hk122 : ∀ (u1 : Int32) (u2 : Int32) (u3 : Int32) (u4 : Int32) (u5 : Int32) (u8 : Int32), k122 u1 u2 u3 u4 u5 u8 = some r → ∀ ls : Array Slot, lv_has ls 11 [(0, .ref a_z), (1, .int u1), (2, .int u2), (3, .int u3), (4, .int u4), (5, .int u5), (8, .int u8)] → WP p l e rmX9_mayHoist s m av below meth c r 122 ls []), ∀ (y1 : Int32) (y2 : Int32) (y3 : Int32) (y5 : Int32) (y8 : Int32), jX9_mayHoist_245 z_s z_entries z_keeps k18 k122 y1 y2 y3 y5 y8 = some r → ∀ ls : Array Slot, lv_has ls 11 [(0, .ref a_z), (1, .int y1), (2, .int y2), (3, .int y3), (5, .int y5), (8, .int y8)] → WP p l e rmX9_mayHoist s m av below meth c r 245 ls [] := by
    intro k18 k122 hk18 hk122
    intro y1 y2 y3 y5 y8 h ls hl
    unfold jX9_mayHoist_245 at h
    refine lv_iconst (v := 0) hx hb dX9_mayHoist_245 (by decide) ?_
    exact F246 k18 k122 hk18 hk122 y1 y2 y3 y5 y8 0 h ls (lv_sub (l' := [(0, .ref a_z), (1, .int y1), (2, .int y2), (3, .int y3), (5, .int y5), (8, .int y8)]) hl [0, 1, 2, 3, 4, 5] rfl)
  have F241 : ∀ (k18 : Int32 → Int32 → Int32 → Int32 → Int32 → Option (Int32)) (k122 : Int32 → Int32 → Int32 → Int32 → Int32 → Int32 → Option (Int32)) (hk18 : ∀ (u1 : Int32) (u2 : Int32) (u3 : Int32) (u4 : Int32) (u5 : Int32), k18 u1 u2 u3 u4 u5 = some r → ∀ ls : Array Slot, lv_has ls 11 [(0, .ref a_z), (1, .int u1), (2, .int u2), (3, .int u3), (4, .int u4), (5, .int u5)] → WP p l e rmX9_mayHoist s m av below meth c r 18 ls []) (hk122 : ∀ (u1 : Int32) (u2 : Int32) (u3 : Int32) (u4 : Int32) (u5 : Int32) (u8 : Int32), k122 u1 u2 u3 u4 u5 u8 = some r → ∀ ls : Array Slot, lv_has ls 11 [(0, .ref a_z), (1, .int u1), (2, .int u2), (3, .int u3), (4, .int u4), (5, .int u5), (8, .int u8)] → WP p l e rmX9_mayHoist s m av below meth c r 122 ls []), ∀ (y1 : Int32) (y2 : Int32) (y3 : Int32) (y5 : Int32) (y8 : Int32), jX9_mayHoist_241 z_s z_entries z_keeps k18 k122 y1 y2 y3 y5 y8 = some r → ∀ ls : Array Slot, lv_has ls 11 [(0, .ref a_z), (1, .int y1), (2, .int y2), (3, .int y3), (5, .int y5), (8, .int y8)] → WP p l e rmX9_mayHoist s m av below meth c r 241 ls [] := by
    intro k18 k122 hk18 hk122
    intro y1 y2 y3 y5 y8 h ls hl
    unfold jX9_mayHoist_241 at h
    refine lv_iconst (v := 1) hx hb dX9_mayHoist_241 (by decide) ?_
    refine lv_goto (tgt := 246) hx hb dX9_mayHoist_242 (by decide) ?_
    exact F246 k18 k122 hk18 hk122 y1 y2 y3 y5 y8 1 h ls (lv_sub (l' := [(0, .ref a_z), (1, .int y1), (2, .int y2), (3, .int y3), (5, .int y5), (8, .int y8)]) hl [0, 1, 2, 3, 4, 5] rfl)
  have F207 : ∀ (k18 : Int32 → Int32 → Int32 → Int32 → Int32 → Option (Int32)) (k122 : Int32 → Int32 → Int32 → Int32 → Int32 → Int32 → Option (Int32)) (hk18 : ∀ (u1 : Int32) (u2 : Int32) (u3 : Int32) (u4 : Int32) (u5 : Int32), k18 u1 u2 u3 u4 u5 = some r → ∀ ls : Array Slot, lv_has ls 11 [(0, .ref a_z), (1, .int u1), (2, .int u2), (3, .int u3), (4, .int u4), (5, .int u5)] → WP p l e rmX9_mayHoist s m av below meth c r 18 ls []) (hk122 : ∀ (u1 : Int32) (u2 : Int32) (u3 : Int32) (u4 : Int32) (u5 : Int32) (u8 : Int32), k122 u1 u2 u3 u4 u5 u8 = some r → ∀ ls : Array Slot, lv_has ls 11 [(0, .ref a_z), (1, .int u1), (2, .int u2), (3, .int u3), (4, .int u4), (5, .int u5), (8, .int u8)] → WP p l e rmX9_mayHoist s m av below meth c r 122 ls []), ∀ (y1 : Int32) (y2 : Int32) (y3 : Int32) (y4 : Int32) (y5 : Int32) (y8 : Int32) (y9 : Int32) (s0 : Int32), jX9_mayHoist_207 z_s z_entries z_keeps k18 k122 y1 y2 y3 y4 y5 y8 y9 s0 = some r → ∀ ls : Array Slot, lv_has ls 11 [(0, .ref a_z), (1, .int y1), (2, .int y2), (3, .int y3), (4, .int y4), (5, .int y5), (8, .int y8), (9, .int y9)] → WP p l e rmX9_mayHoist s m av below meth c r 207 ls [.int s0] := by
    intro k18 k122 hk18 hk122
    intro y1 y2 y3 y4 y5 y8 y9 s0 h ls hl
    unfold jX9_mayHoist_207 at h
    refine lv_istore (lv' := [(10, .int s0), (0, .ref a_z), (1, .int y1), (2, .int y2), (3, .int y3), (4, .int y4), (5, .int y5), (8, .int y8), (9, .int y9)]) hx hb dX9_mayHoist_207 hl (by decide) rfl (fun ls hl => ?_)
    refine lv_iload hx hb dX9_mayHoist_209 (lv_at hl 5 rfl) ?_
    refine lv_if_eq (tgt := 245) hx hb dX9_mayHoist_211 (by decide) (fun c1 => ?_) (fun c1 => ?_)
    · have h := ifp h c1
      exact F245 k18 k122 hk18 hk122 y1 y2 y3 y5 y8 h ls (lv_sub (l' := [(0, .ref a_z), (1, .int y1), (2, .int y2), (3, .int y3), (5, .int y5), (8, .int y8)]) hl [1, 2, 3, 4, 6, 7] rfl)
    · have h := ifn h c1
      refine lv_iload hx hb dX9_mayHoist_214 (lv_at hl 8 rfl) ?_
      refine lv_if_eq (tgt := 241) hx hb dX9_mayHoist_216 (by decide) (fun c2 => ?_) (fun c2 => ?_)
      · have h := ifp h c2
        exact F241 k18 k122 hk18 hk122 y1 y2 y3 y5 y8 h ls (lv_sub (l' := [(0, .ref a_z), (1, .int y1), (2, .int y2), (3, .int y3), (5, .int y5), (8, .int y8)]) hl [1, 2, 3, 4, 6, 7] rfl)
      · have h := ifn h c2
        refine lv_iload hx hb dX9_mayHoist_219 (lv_at hl 0 rfl) ?_
        refine lv_if_eq (tgt := 241) hx hb dX9_mayHoist_221 (by decide) (fun c3 => ?_) (fun c3 => ?_)
        · have h := ifp h c3
          exact F241 k18 k122 hk18 hk122 y1 y2 y3 y5 y8 h ls (lv_sub (l' := [(0, .ref a_z), (1, .int y1), (2, .int y2), (3, .int y3), (5, .int y5), (8, .int y8)]) hl [1, 2, 3, 4, 6, 7] rfl)
        · have h := ifn h c3
          refine lv_aload_n hx hb dX9_mayHoist_224 rfl (lv_at hl 1 rfl) ?_
          refine lv_iload hx hb dX9_mayHoist_225 (lv_at hl 7 rfl) ?_
          refine lv_iload_n hx hb dX9_mayHoist_227 rfl (lv_at hl 3 rfl) ?_
          obtain ⟨v4, ev4, h⟩ := bn_some h
          have hs5 : va_P D vwCl (W_z cI cM a_z a_z_s a_z_past a_z_keeps a_z_entryKey a_z_entryDefault a_z_held a_z_values a_z_kinds a_z_news z_s z_past z_pasts z_changed z_entries z_keeps z_entryKey z_entryDefault z_counter z_held z_values z_kinds z_news) _ := hP.sub (ws' := W_z cI cM a_z a_z_s a_z_past a_z_keeps a_z_entryKey a_z_entryDefault a_z_held a_z_values a_z_kinds a_z_news z_s z_past z_pasts z_changed z_entries z_keeps z_entryKey z_entryDefault z_counter z_held z_values z_kinds z_news) [0, 1, 2, 3, 4, 5, 6, 7, 8, 9] rfl
          refine kV (As := [.int y8, .int y2]) (rest := []) SS hKK (qX9_turnOf l D cI cM a_z a_z_s a_z_past a_z_keeps a_z_entryKey a_z_entryDefault a_z_held a_z_values a_z_kinds a_z_news z_s z_past z_pasts z_changed z_entries z_keeps z_entryKey z_entryDefault z_counter z_held z_values z_kinds z_news y8 y2 v4 ev4) cw175 hs5 0 9 rfl rfl rfl hl.1 rfl (Nat.le_of_ble_eq_true rfl) dX9_mayHoist_228 ⟨Nat.zero_le _, Nat.zero_le _⟩ ?_
          refine lv_aload_n hx hb dX9_mayHoist_231 rfl (lv_at hl 1 rfl) ?_
          refine lv_iload hx hb dX9_mayHoist_232 (lv_at hl 6 rfl) ?_
          refine lv_iload_n hx hb dX9_mayHoist_234 rfl (lv_at hl 3 rfl) ?_
          obtain ⟨v6, ev6, h⟩ := bn_some h
          refine kV (As := [.int y5, .int y2]) (rest := [.int v4]) SS hKK (qX9_turnOf l D cI cM a_z a_z_s a_z_past a_z_keeps a_z_entryKey a_z_entryDefault a_z_held a_z_values a_z_kinds a_z_news z_s z_past z_pasts z_changed z_entries z_keeps z_entryKey z_entryDefault z_counter z_held z_values z_kinds z_news y5 y2 v6 ev6) cw175 hs5 0 9 rfl rfl rfl hl.1 rfl (Nat.le_of_ble_eq_true rfl) dX9_mayHoist_235 ⟨Nat.zero_le _, Nat.zero_le _⟩ ?_
          refine lv_icmp_ge (tgt := 245) hx hb dX9_mayHoist_238 (by decide) (fun c7 => ?_) (fun c7 => ?_)
          · have h := ifp h c7
            exact F245 k18 k122 hk18 hk122 y1 y2 y3 y5 y8 h ls (lv_sub (l' := [(0, .ref a_z), (1, .int y1), (2, .int y2), (3, .int y3), (5, .int y5), (8, .int y8)]) hl [1, 2, 3, 4, 6, 7] rfl)
          · have h := ifn h c7
            exact F241 k18 k122 hk18 hk122 y1 y2 y3 y5 y8 h ls (lv_sub (l' := [(0, .ref a_z), (1, .int y1), (2, .int y2), (3, .int y3), (5, .int y5), (8, .int y8)]) hl [1, 2, 3, 4, 6, 7] rfl)
  have F206 : ∀ (k18 : Int32 → Int32 → Int32 → Int32 → Int32 → Option (Int32)) (k122 : Int32 → Int32 → Int32 → Int32 → Int32 → Int32 → Option (Int32)) (hk18 : ∀ (u1 : Int32) (u2 : Int32) (u3 : Int32) (u4 : Int32) (u5 : Int32), k18 u1 u2 u3 u4 u5 = some r → ∀ ls : Array Slot, lv_has ls 11 [(0, .ref a_z), (1, .int u1), (2, .int u2), (3, .int u3), (4, .int u4), (5, .int u5)] → WP p l e rmX9_mayHoist s m av below meth c r 18 ls []) (hk122 : ∀ (u1 : Int32) (u2 : Int32) (u3 : Int32) (u4 : Int32) (u5 : Int32) (u8 : Int32), k122 u1 u2 u3 u4 u5 u8 = some r → ∀ ls : Array Slot, lv_has ls 11 [(0, .ref a_z), (1, .int u1), (2, .int u2), (3, .int u3), (4, .int u4), (5, .int u5), (8, .int u8)] → WP p l e rmX9_mayHoist s m av below meth c r 122 ls []), ∀ (y1 : Int32) (y2 : Int32) (y3 : Int32) (y4 : Int32) (y5 : Int32) (y8 : Int32) (y9 : Int32), jX9_mayHoist_206 z_s z_entries z_keeps k18 k122 y1 y2 y3 y4 y5 y8 y9 = some r → ∀ ls : Array Slot, lv_has ls 11 [(0, .ref a_z), (1, .int y1), (2, .int y2), (3, .int y3), (4, .int y4), (5, .int y5), (8, .int y8), (9, .int y9)] → WP p l e rmX9_mayHoist s m av below meth c r 206 ls [] := by
    intro k18 k122 hk18 hk122
    intro y1 y2 y3 y4 y5 y8 y9 h ls hl
    unfold jX9_mayHoist_206 at h
    refine lv_iconst (v := 0) hx hb dX9_mayHoist_206 (by decide) ?_
    exact F207 k18 k122 hk18 hk122 y1 y2 y3 y4 y5 y8 y9 0 h ls (lv_sub (l' := [(0, .ref a_z), (1, .int y1), (2, .int y2), (3, .int y3), (4, .int y4), (5, .int y5), (8, .int y8), (9, .int y9)]) hl [0, 1, 2, 3, 4, 5, 6, 7] rfl)
  have F176 : ∀ (k18 : Int32 → Int32 → Int32 → Int32 → Int32 → Option (Int32)) (k122 : Int32 → Int32 → Int32 → Int32 → Int32 → Int32 → Option (Int32)) (hk18 : ∀ (u1 : Int32) (u2 : Int32) (u3 : Int32) (u4 : Int32) (u5 : Int32), k18 u1 u2 u3 u4 u5 = some r → ∀ ls : Array Slot, lv_has ls 11 [(0, .ref a_z), (1, .int u1), (2, .int u2), (3, .int u3), (4, .int u4), (5, .int u5)] → WP p l e rmX9_mayHoist s m av below meth c r 18 ls []) (hk122 : ∀ (u1 : Int32) (u2 : Int32) (u3 : Int32) (u4 : Int32) (u5 : Int32) (u8 : Int32), k122 u1 u2 u3 u4 u5 u8 = some r → ∀ ls : Array Slot, lv_has ls 11 [(0, .ref a_z), (1, .int u1), (2, .int u2), (3, .int u3), (4, .int u4), (5, .int u5), (8, .int u8)] → WP p l e rmX9_mayHoist s m av below meth c r 122 ls []), ∀ (y1 : Int32) (y2 : Int32) (y3 : Int32) (y4 : Int32) (y5 : Int32) (y8 : Int32) (s0 : Int32), jX9_mayHoist_176 z_s z_entries z_keeps k18 k122 y1 y2 y3 y4 y5 y8 s0 = some r → ∀ ls : Array Slot, lv_has ls 11 [(0, .ref a_z), (1, .int y1), (2, .int y2), (3, .int y3), (4, .int y4), (5, .int y5), (8, .int y8)] → WP p l e rmX9_mayHoist s m av below meth c r 176 ls [.int s0] := by
    intro k18 k122 hk18 hk122
    intro y1 y2 y3 y4 y5 y8 s0 h ls hl
    unfold jX9_mayHoist_176 at h
    refine lv_istore (lv' := [(9, .int s0), (0, .ref a_z), (1, .int y1), (2, .int y2), (3, .int y3), (4, .int y4), (5, .int y5), (8, .int y8)]) hx hb dX9_mayHoist_176 hl (by decide) rfl (fun ls hl => ?_)
    refine lv_aload_n hx hb dX9_mayHoist_178 rfl (lv_at hl 1 rfl) ?_
    refine lv_iload hx hb dX9_mayHoist_179 (lv_at hl 6 rfl) ?_
    refine lv_iload_n hx hb dX9_mayHoist_181 rfl (lv_at hl 3 rfl) ?_
    obtain ⟨v1, ev1, h⟩ := bn_some h
    have hs2 : va_P D vwCl (W_z cI cM a_z a_z_s a_z_past a_z_keeps a_z_entryKey a_z_entryDefault a_z_held a_z_values a_z_kinds a_z_news z_s z_past z_pasts z_changed z_entries z_keeps z_entryKey z_entryDefault z_counter z_held z_values z_kinds z_news) _ := hP.sub (ws' := W_z cI cM a_z a_z_s a_z_past a_z_keeps a_z_entryKey a_z_entryDefault a_z_held a_z_values a_z_kinds a_z_news z_s z_past z_pasts z_changed z_entries z_keeps z_entryKey z_entryDefault z_counter z_held z_values z_kinds z_news) [0, 1, 2, 3, 4, 5, 6, 7, 8, 9] rfl
    refine kV (As := [.int y5, .int y2]) (rest := []) SS hKK (qX9_turnOf l D cI cM a_z a_z_s a_z_past a_z_keeps a_z_entryKey a_z_entryDefault a_z_held a_z_values a_z_kinds a_z_news z_s z_past z_pasts z_changed z_entries z_keeps z_entryKey z_entryDefault z_counter z_held z_values z_kinds z_news y5 y2 v1 ev1) cw175 hs2 0 9 rfl rfl rfl hl.1 rfl (Nat.le_of_ble_eq_true rfl) dX9_mayHoist_182 ⟨Nat.zero_le _, Nat.zero_le _⟩ ?_
    refine lv_bipush (v := (-9)) hx hb dX9_mayHoist_185 (by decide) ?_
    refine lv_icmp_eq (tgt := 206) hx hb dX9_mayHoist_187 (by decide) (fun c3 => ?_) (fun c3 => ?_)
    · have h := ifp h c3
      exact F206 k18 k122 hk18 hk122 y1 y2 y3 y4 y5 y8 s0 h ls (lv_sub (l' := [(0, .ref a_z), (1, .int y1), (2, .int y2), (3, .int y3), (4, .int y4), (5, .int y5), (8, .int y8), (9, .int s0)]) hl [1, 2, 3, 4, 5, 6, 7, 0] rfl)
    · have h := ifn h c3
      refine lv_aload_n hx hb dX9_mayHoist_190 rfl (lv_at hl 1 rfl) ?_
      refine lv_iload hx hb dX9_mayHoist_191 (lv_at hl 7 rfl) ?_
      refine lv_iload_n hx hb dX9_mayHoist_193 rfl (lv_at hl 3 rfl) ?_
      obtain ⟨v4, ev4, h⟩ := bn_some h
      refine kV (As := [.int y8, .int y2]) (rest := []) SS hKK (qX9_turnOf l D cI cM a_z a_z_s a_z_past a_z_keeps a_z_entryKey a_z_entryDefault a_z_held a_z_values a_z_kinds a_z_news z_s z_past z_pasts z_changed z_entries z_keeps z_entryKey z_entryDefault z_counter z_held z_values z_kinds z_news y8 y2 v4 ev4) cw175 hs2 0 9 rfl rfl rfl hl.1 rfl (Nat.le_of_ble_eq_true rfl) dX9_mayHoist_194 ⟨Nat.zero_le _, Nat.zero_le _⟩ ?_
      refine lv_bipush (v := (-9)) hx hb dX9_mayHoist_197 (by decide) ?_
      refine lv_icmp_eq (tgt := 206) hx hb dX9_mayHoist_199 (by decide) (fun c5 => ?_) (fun c5 => ?_)
      · have h := ifp h c5
        exact F206 k18 k122 hk18 hk122 y1 y2 y3 y4 y5 y8 s0 h ls (lv_sub (l' := [(0, .ref a_z), (1, .int y1), (2, .int y2), (3, .int y3), (4, .int y4), (5, .int y5), (8, .int y8), (9, .int s0)]) hl [1, 2, 3, 4, 5, 6, 7, 0] rfl)
      · have h := ifn h c5
        refine lv_iconst (v := 1) hx hb dX9_mayHoist_202 (by decide) ?_
        refine lv_goto (tgt := 207) hx hb dX9_mayHoist_203 (by decide) ?_
        exact F207 k18 k122 hk18 hk122 y1 y2 y3 y4 y5 y8 s0 1 h ls (lv_sub (l' := [(0, .ref a_z), (1, .int y1), (2, .int y2), (3, .int y3), (4, .int y4), (5, .int y5), (8, .int y8), (9, .int s0)]) hl [1, 2, 3, 4, 5, 6, 7, 0] rfl)
  have F175 : ∀ (k18 : Int32 → Int32 → Int32 → Int32 → Int32 → Option (Int32)) (k122 : Int32 → Int32 → Int32 → Int32 → Int32 → Int32 → Option (Int32)) (hk18 : ∀ (u1 : Int32) (u2 : Int32) (u3 : Int32) (u4 : Int32) (u5 : Int32), k18 u1 u2 u3 u4 u5 = some r → ∀ ls : Array Slot, lv_has ls 11 [(0, .ref a_z), (1, .int u1), (2, .int u2), (3, .int u3), (4, .int u4), (5, .int u5)] → WP p l e rmX9_mayHoist s m av below meth c r 18 ls []) (hk122 : ∀ (u1 : Int32) (u2 : Int32) (u3 : Int32) (u4 : Int32) (u5 : Int32) (u8 : Int32), k122 u1 u2 u3 u4 u5 u8 = some r → ∀ ls : Array Slot, lv_has ls 11 [(0, .ref a_z), (1, .int u1), (2, .int u2), (3, .int u3), (4, .int u4), (5, .int u5), (8, .int u8)] → WP p l e rmX9_mayHoist s m av below meth c r 122 ls []), ∀ (y1 : Int32) (y2 : Int32) (y3 : Int32) (y4 : Int32) (y5 : Int32) (y8 : Int32), jX9_mayHoist_175 z_s z_entries z_keeps k18 k122 y1 y2 y3 y4 y5 y8 = some r → ∀ ls : Array Slot, lv_has ls 11 [(0, .ref a_z), (1, .int y1), (2, .int y2), (3, .int y3), (4, .int y4), (5, .int y5), (8, .int y8)] → WP p l e rmX9_mayHoist s m av below meth c r 175 ls [] := by
    intro k18 k122 hk18 hk122
    intro y1 y2 y3 y4 y5 y8 h ls hl
    unfold jX9_mayHoist_175 at h
    refine lv_iconst (v := 0) hx hb dX9_mayHoist_175 (by decide) ?_
    exact F176 k18 k122 hk18 hk122 y1 y2 y3 y4 y5 y8 0 h ls (lv_sub (l' := [(0, .ref a_z), (1, .int y1), (2, .int y2), (3, .int y3), (4, .int y4), (5, .int y5), (8, .int y8)]) hl [0, 1, 2, 3, 4, 5, 6] rfl)
  have F171 : ∀ (k18 : Int32 → Int32 → Int32 → Int32 → Int32 → Option (Int32)) (k122 : Int32 → Int32 → Int32 → Int32 → Int32 → Int32 → Option (Int32)) (hk18 : ∀ (u1 : Int32) (u2 : Int32) (u3 : Int32) (u4 : Int32) (u5 : Int32), k18 u1 u2 u3 u4 u5 = some r → ∀ ls : Array Slot, lv_has ls 11 [(0, .ref a_z), (1, .int u1), (2, .int u2), (3, .int u3), (4, .int u4), (5, .int u5)] → WP p l e rmX9_mayHoist s m av below meth c r 18 ls []) (hk122 : ∀ (u1 : Int32) (u2 : Int32) (u3 : Int32) (u4 : Int32) (u5 : Int32) (u8 : Int32), k122 u1 u2 u3 u4 u5 u8 = some r → ∀ ls : Array Slot, lv_has ls 11 [(0, .ref a_z), (1, .int u1), (2, .int u2), (3, .int u3), (4, .int u4), (5, .int u5), (8, .int u8)] → WP p l e rmX9_mayHoist s m av below meth c r 122 ls []), ∀ (y1 : Int32) (y2 : Int32) (y3 : Int32) (y4 : Int32) (y5 : Int32) (y8 : Int32), jX9_mayHoist_171 z_s z_entries z_keeps k18 k122 y1 y2 y3 y4 y5 y8 = some r → ∀ ls : Array Slot, lv_has ls 11 [(0, .ref a_z), (1, .int y1), (2, .int y2), (3, .int y3), (4, .int y4), (5, .int y5), (8, .int y8)] → WP p l e rmX9_mayHoist s m av below meth c r 171 ls [] := by
    intro k18 k122 hk18 hk122
    intro y1 y2 y3 y4 y5 y8 h ls hl
    unfold jX9_mayHoist_171 at h
    refine lv_iconst (v := 1) hx hb dX9_mayHoist_171 (by decide) ?_
    refine lv_goto (tgt := 176) hx hb dX9_mayHoist_172 (by decide) ?_
    exact F176 k18 k122 hk18 hk122 y1 y2 y3 y4 y5 y8 1 h ls (lv_sub (l' := [(0, .ref a_z), (1, .int y1), (2, .int y2), (3, .int y3), (4, .int y4), (5, .int y5), (8, .int y8)]) hl [0, 1, 2, 3, 4, 5, 6] rfl)
  have F122 : ∀ (k18 : Int32 → Int32 → Int32 → Int32 → Int32 → Option (Int32)) (hk18 : ∀ (u1 : Int32) (u2 : Int32) (u3 : Int32) (u4 : Int32) (u5 : Int32), k18 u1 u2 u3 u4 u5 = some r → ∀ ls : Array Slot, lv_has ls 11 [(0, .ref a_z), (1, .int u1), (2, .int u2), (3, .int u3), (4, .int u4), (5, .int u5)] → WP p l e rmX9_mayHoist s m av below meth c r 18 ls []), ∀ (n : Nat) (y1 : Int32) (y2 : Int32) (y3 : Int32) (y4 : Int32) (y5 : Int32) (y8 : Int32), lX9_mayHoist_122 z_s z_entries z_keeps k18 n y1 y2 y3 y4 y5 y8 = some r → ∀ ls : Array Slot, lv_has ls 11 [(0, .ref a_z), (1, .int y1), (2, .int y2), (3, .int y3), (4, .int y4), (5, .int y5), (8, .int y8)] → WP p l e rmX9_mayHoist s m av below meth c r 122 ls [] := by
    intro k18 hk18
    intro n
    induction n with
    | zero => intro y1 y2 y3 y4 y5 y8 h; exact no_some h
    | succ n ih =>
      intro y1 y2 y3 y4 y5 y8 h ls hl
      rw [lX9_mayHoist_122_s] at h
      refine lv_iload hx hb dX9_mayHoist_122 (lv_at hl 6 rfl) ?_
      refine lv_iload hx hb dX9_mayHoist_124 (lv_at hl 5 rfl) ?_
      refine lv_icmp_ge (tgt := 254) hx hb dX9_mayHoist_126 (by decide) (fun c1 => ?_) (fun c1 => ?_)
      · have h := ifp h c1
        refine lv_iinc (v := y5 + 1) (lv' := [(5, .int (y5 + 1)), (0, .ref a_z), (1, .int y1), (2, .int y2), (3, .int y3), (4, .int y4), (8, .int y8)]) hx hb dX9_mayHoist_254 hl (k := 5) rfl rfl (by decide) rfl (fun ls hl => ?_)
        refine lv_goto (tgt := 18) hx hb dX9_mayHoist_257 (by decide) ?_
        exact hk18 y1 y2 y3 y4 (y5 + 1) h ls (lv_sub (l' := [(0, .ref a_z), (1, .int y1), (2, .int y2), (3, .int y3), (4, .int y4), (5, .int (y5 + 1))]) hl [1, 2, 3, 4, 5, 0] rfl)
      · have h := ifn h c1
        refine lv_aload_n hx hb dX9_mayHoist_129 rfl (lv_at hl 0 rfl) ?_
        refine lv_iload_n hx hb dX9_mayHoist_130 rfl (lv_at hl 1 rfl) ?_
        refine lv_iload hx hb dX9_mayHoist_131 (lv_at hl 5 rfl) ?_
        obtain ⟨v2, ev2, h⟩ := bn_some h
        have hs3 : va_P D vwCl (W_z cI cM a_z a_z_s a_z_past a_z_keeps a_z_entryKey a_z_entryDefault a_z_held a_z_values a_z_kinds a_z_news z_s z_past z_pasts z_changed z_entries z_keeps z_entryKey z_entryDefault z_counter z_held z_values z_kinds z_news) _ := hP.sub (ws' := W_z cI cM a_z a_z_s a_z_past a_z_keeps a_z_entryKey a_z_entryDefault a_z_held a_z_values a_z_kinds a_z_news z_s z_past z_pasts z_changed z_entries z_keeps z_entryKey z_entryDefault z_counter z_held z_values z_kinds z_news) [0, 1, 2, 3, 4, 5, 6, 7, 8, 9] rfl
        refine kV (As := [.int y1, .int y5]) (rest := []) SS hKK (qX9_doesCount l D cI cM a_z a_z_s a_z_past a_z_keeps a_z_entryKey a_z_entryDefault a_z_held a_z_values a_z_kinds a_z_news z_s z_past z_pasts z_changed z_entries z_keeps z_entryKey z_entryDefault z_counter z_held z_values z_kinds z_news y1 y5 v2 ev2) cw172 hs3 0 9 rfl rfl rfl hl.1 rfl (Nat.le_of_ble_eq_true rfl) dX9_mayHoist_133 ⟨Nat.zero_le _, Nat.zero_le _⟩ ?_
        refine lv_if_eq (tgt := 175) hx hb dX9_mayHoist_136 (by decide) (fun c4 => ?_) (fun c4 => ?_)
        · have h := ifp h c4
          exact F175 k18 (fun u1 u2 u3 u4 u5 u8 => lX9_mayHoist_122 z_s z_entries z_keeps k18 n u1 u2 u3 u4 u5 u8) hk18 (fun u1 u2 u3 u4 u5 u8 h ls hl => ih u1 u2 u3 u4 u5 u8 h ls hl) y1 y2 y3 y4 y5 y8 h ls (lv_sub (l' := [(0, .ref a_z), (1, .int y1), (2, .int y2), (3, .int y3), (4, .int y4), (5, .int y5), (8, .int y8)]) hl [0, 1, 2, 3, 4, 5, 6] rfl)
        · have h := ifn h c4
          refine lv_aload_n hx hb dX9_mayHoist_139 rfl (lv_at hl 0 rfl) ?_
          refine lv_iload_n hx hb dX9_mayHoist_140 rfl (lv_at hl 1 rfl) ?_
          refine lv_iload hx hb dX9_mayHoist_141 (lv_at hl 6 rfl) ?_
          obtain ⟨v5, ev5, h⟩ := bn_some h
          refine kV (As := [.int y1, .int y8]) (rest := []) SS hKK (qX9_doesCount l D cI cM a_z a_z_s a_z_past a_z_keeps a_z_entryKey a_z_entryDefault a_z_held a_z_values a_z_kinds a_z_news z_s z_past z_pasts z_changed z_entries z_keeps z_entryKey z_entryDefault z_counter z_held z_values z_kinds z_news y1 y8 v5 ev5) cw172 hs3 0 9 rfl rfl rfl hl.1 rfl (Nat.le_of_ble_eq_true rfl) dX9_mayHoist_143 ⟨Nat.zero_le _, Nat.zero_le _⟩ ?_
          refine lv_if_eq (tgt := 175) hx hb dX9_mayHoist_146 (by decide) (fun c6 => ?_) (fun c6 => ?_)
          · have h := ifp h c6
            exact F175 k18 (fun u1 u2 u3 u4 u5 u8 => lX9_mayHoist_122 z_s z_entries z_keeps k18 n u1 u2 u3 u4 u5 u8) hk18 (fun u1 u2 u3 u4 u5 u8 h ls hl => ih u1 u2 u3 u4 u5 u8 h ls hl) y1 y2 y3 y4 y5 y8 h ls (lv_sub (l' := [(0, .ref a_z), (1, .int y1), (2, .int y2), (3, .int y3), (4, .int y4), (5, .int y5), (8, .int y8)]) hl [0, 1, 2, 3, 4, 5, 6] rfl)
          · have h := ifn h c6
            refine lv_aload_n hx hb dX9_mayHoist_149 rfl (lv_at hl 0 rfl) ?_
            refine lv_iload_n hx hb dX9_mayHoist_150 rfl (lv_at hl 1 rfl) ?_
            refine lv_iload hx hb dX9_mayHoist_151 (lv_at hl 5 rfl) ?_
            obtain ⟨v7, ev7, h⟩ := bn_some h
            refine kV (As := [.int y1, .int y5]) (rest := []) SS hKK (qX9_kindOf l D cI cM a_z a_z_s a_z_past a_z_keeps a_z_entryKey a_z_entryDefault a_z_held a_z_values a_z_kinds a_z_news z_s z_past z_pasts z_changed z_entries z_keeps z_entryKey z_entryDefault z_counter z_held z_values z_kinds z_news y1 y5 v7 ev7) cw169 hs3 0 9 rfl rfl rfl hl.1 rfl (Nat.le_of_ble_eq_true rfl) dX9_mayHoist_153 ⟨Nat.zero_le _, Nat.zero_le _⟩ ?_
            refine lv_iconst (v := 2) hx hb dX9_mayHoist_156 (by decide) ?_
            refine lv_icmp_eq (tgt := 171) hx hb dX9_mayHoist_157 (by decide) (fun c8 => ?_) (fun c8 => ?_)
            · have h := ifp h c8
              exact F171 k18 (fun u1 u2 u3 u4 u5 u8 => lX9_mayHoist_122 z_s z_entries z_keeps k18 n u1 u2 u3 u4 u5 u8) hk18 (fun u1 u2 u3 u4 u5 u8 h ls hl => ih u1 u2 u3 u4 u5 u8 h ls hl) y1 y2 y3 y4 y5 y8 h ls (lv_sub (l' := [(0, .ref a_z), (1, .int y1), (2, .int y2), (3, .int y3), (4, .int y4), (5, .int y5), (8, .int y8)]) hl [0, 1, 2, 3, 4, 5, 6] rfl)
            · have h := ifn h c8
              refine lv_aload_n hx hb dX9_mayHoist_160 rfl (lv_at hl 0 rfl) ?_
              refine lv_iload_n hx hb dX9_mayHoist_161 rfl (lv_at hl 1 rfl) ?_
              refine lv_iload hx hb dX9_mayHoist_162 (lv_at hl 6 rfl) ?_
              obtain ⟨v9, ev9, h⟩ := bn_some h
              refine kV (As := [.int y1, .int y8]) (rest := []) SS hKK (qX9_kindOf l D cI cM a_z a_z_s a_z_past a_z_keeps a_z_entryKey a_z_entryDefault a_z_held a_z_values a_z_kinds a_z_news z_s z_past z_pasts z_changed z_entries z_keeps z_entryKey z_entryDefault z_counter z_held z_values z_kinds z_news y1 y8 v9 ev9) cw169 hs3 0 9 rfl rfl rfl hl.1 rfl (Nat.le_of_ble_eq_true rfl) dX9_mayHoist_164 ⟨Nat.zero_le _, Nat.zero_le _⟩ ?_
              refine lv_iconst (v := 2) hx hb dX9_mayHoist_167 (by decide) ?_
              refine lv_icmp_ne (tgt := 175) hx hb dX9_mayHoist_168 (by decide) (fun c10 => ?_) (fun c10 => ?_)
              · have h := ifn h c10
                exact F175 k18 (fun u1 u2 u3 u4 u5 u8 => lX9_mayHoist_122 z_s z_entries z_keeps k18 n u1 u2 u3 u4 u5 u8) hk18 (fun u1 u2 u3 u4 u5 u8 h ls hl => ih u1 u2 u3 u4 u5 u8 h ls hl) y1 y2 y3 y4 y5 y8 h ls (lv_sub (l' := [(0, .ref a_z), (1, .int y1), (2, .int y2), (3, .int y3), (4, .int y4), (5, .int y5), (8, .int y8)]) hl [0, 1, 2, 3, 4, 5, 6] rfl)
              · have h := ifp h c10
                exact F171 k18 (fun u1 u2 u3 u4 u5 u8 => lX9_mayHoist_122 z_s z_entries z_keeps k18 n u1 u2 u3 u4 u5 u8) hk18 (fun u1 u2 u3 u4 u5 u8 h ls hl => ih u1 u2 u3 u4 u5 u8 h ls hl) y1 y2 y3 y4 y5 y8 h ls (lv_sub (l' := [(0, .ref a_z), (1, .int y1), (2, .int y2), (3, .int y3), (4, .int y4), (5, .int y5), (8, .int y8)]) hl [0, 1, 2, 3, 4, 5, 6] rfl)
  have F117 : ∀ (k18 : Int32 → Int32 → Int32 → Int32 → Int32 → Option (Int32)) (hk18 : ∀ (u1 : Int32) (u2 : Int32) (u3 : Int32) (u4 : Int32) (u5 : Int32), k18 u1 u2 u3 u4 u5 = some r → ∀ ls : Array Slot, lv_has ls 11 [(0, .ref a_z), (1, .int u1), (2, .int u2), (3, .int u3), (4, .int u4), (5, .int u5)] → WP p l e rmX9_mayHoist s m av below meth c r 18 ls []), ∀ (y1 : Int32) (y2 : Int32) (y3 : Int32) (y5 : Int32) (s0 : Int32), jX9_mayHoist_117 z_s z_entries z_keeps k18 y1 y2 y3 y5 s0 = some r → ∀ ls : Array Slot, lv_has ls 11 [(0, .ref a_z), (1, .int y1), (2, .int y2), (3, .int y3), (5, .int y5)] → WP p l e rmX9_mayHoist s m av below meth c r 117 ls [.int s0] := by
    intro k18 hk18
    intro y1 y2 y3 y5 s0 h ls hl
    unfold jX9_mayHoist_117 at h
    refine lv_istore (lv' := [(4, .int s0), (0, .ref a_z), (1, .int y1), (2, .int y2), (3, .int y3), (5, .int y5)]) hx hb dX9_mayHoist_117 hl (by decide) rfl (fun ls hl => ?_)
    refine lv_iconst (v := 0) hx hb dX9_mayHoist_119 (by decide) ?_
    refine lv_istore (lv' := [(8, .int 0), (4, .int s0), (0, .ref a_z), (1, .int y1), (2, .int y2), (3, .int y3), (5, .int y5)]) hx hb dX9_mayHoist_120 hl (by decide) rfl (fun ls hl => ?_)
    exact F122 k18 hk18 5000 y1 y2 y3 s0 y5 0 h ls (lv_sub (l' := [(0, .ref a_z), (1, .int y1), (2, .int y2), (3, .int y3), (4, .int s0), (5, .int y5), (8, .int 0)]) hl [2, 3, 4, 5, 1, 6, 0] rfl)
  have F116 : ∀ (k18 : Int32 → Int32 → Int32 → Int32 → Int32 → Option (Int32)) (hk18 : ∀ (u1 : Int32) (u2 : Int32) (u3 : Int32) (u4 : Int32) (u5 : Int32), k18 u1 u2 u3 u4 u5 = some r → ∀ ls : Array Slot, lv_has ls 11 [(0, .ref a_z), (1, .int u1), (2, .int u2), (3, .int u3), (4, .int u4), (5, .int u5)] → WP p l e rmX9_mayHoist s m av below meth c r 18 ls []), ∀ (y1 : Int32) (y2 : Int32) (y3 : Int32) (y5 : Int32), jX9_mayHoist_116 z_s z_entries z_keeps k18 y1 y2 y3 y5 = some r → ∀ ls : Array Slot, lv_has ls 11 [(0, .ref a_z), (1, .int y1), (2, .int y2), (3, .int y3), (5, .int y5)] → WP p l e rmX9_mayHoist s m av below meth c r 116 ls [] := by
    intro k18 hk18
    intro y1 y2 y3 y5 h ls hl
    unfold jX9_mayHoist_116 at h
    refine lv_iconst (v := 0) hx hb dX9_mayHoist_116 (by decide) ?_
    exact F117 k18 hk18 y1 y2 y3 y5 0 h ls (lv_sub (l' := [(0, .ref a_z), (1, .int y1), (2, .int y2), (3, .int y3), (5, .int y5)]) hl [0, 1, 2, 3, 4] rfl)
  have F112 : ∀ (k18 : Int32 → Int32 → Int32 → Int32 → Int32 → Option (Int32)) (hk18 : ∀ (u1 : Int32) (u2 : Int32) (u3 : Int32) (u4 : Int32) (u5 : Int32), k18 u1 u2 u3 u4 u5 = some r → ∀ ls : Array Slot, lv_has ls 11 [(0, .ref a_z), (1, .int u1), (2, .int u2), (3, .int u3), (4, .int u4), (5, .int u5)] → WP p l e rmX9_mayHoist s m av below meth c r 18 ls []), ∀ (y1 : Int32) (y2 : Int32) (y3 : Int32) (y5 : Int32), jX9_mayHoist_112 z_s z_entries z_keeps k18 y1 y2 y3 y5 = some r → ∀ ls : Array Slot, lv_has ls 11 [(0, .ref a_z), (1, .int y1), (2, .int y2), (3, .int y3), (5, .int y5)] → WP p l e rmX9_mayHoist s m av below meth c r 112 ls [] := by
    intro k18 hk18
    intro y1 y2 y3 y5 h ls hl
    unfold jX9_mayHoist_112 at h
    refine lv_iconst (v := 1) hx hb dX9_mayHoist_112 (by decide) ?_
    refine lv_goto (tgt := 117) hx hb dX9_mayHoist_113 (by decide) ?_
    exact F117 k18 hk18 y1 y2 y3 y5 1 h ls (lv_sub (l' := [(0, .ref a_z), (1, .int y1), (2, .int y2), (3, .int y3), (5, .int y5)]) hl [0, 1, 2, 3, 4] rfl)
  have F91 : ∀ (k18 : Int32 → Int32 → Int32 → Int32 → Int32 → Option (Int32)) (hk18 : ∀ (u1 : Int32) (u2 : Int32) (u3 : Int32) (u4 : Int32) (u5 : Int32), k18 u1 u2 u3 u4 u5 = some r → ∀ ls : Array Slot, lv_has ls 11 [(0, .ref a_z), (1, .int u1), (2, .int u2), (3, .int u3), (4, .int u4), (5, .int u5)] → WP p l e rmX9_mayHoist s m av below meth c r 18 ls []), ∀ (y1 : Int32) (y2 : Int32) (y3 : Int32) (y5 : Int32) (y6 : Int32) (y7 : Int32), jX9_mayHoist_91 z_s z_entries z_keeps k18 y1 y2 y3 y5 y6 y7 = some r → ∀ ls : Array Slot, lv_has ls 11 [(0, .ref a_z), (1, .int y1), (2, .int y2), (3, .int y3), (5, .int y5), (6, .int y6), (7, .int y7)] → WP p l e rmX9_mayHoist s m av below meth c r 91 ls [] := by
    intro k18 hk18
    intro y1 y2 y3 y5 y6 y7 h ls hl
    unfold jX9_mayHoist_91 at h
    refine lv_aload_n hx hb dX9_mayHoist_91 rfl (lv_at hl 0 rfl) ?_
    refine lv_iload_n hx hb dX9_mayHoist_92 rfl (lv_at hl 1 rfl) ?_
    refine lv_iload hx hb dX9_mayHoist_93 (lv_at hl 4 rfl) ?_
    obtain ⟨v1, ev1, h⟩ := bn_some h
    have hs2 : va_P D vwCl (W_z cI cM a_z a_z_s a_z_past a_z_keeps a_z_entryKey a_z_entryDefault a_z_held a_z_values a_z_kinds a_z_news z_s z_past z_pasts z_changed z_entries z_keeps z_entryKey z_entryDefault z_counter z_held z_values z_kinds z_news) _ := hP.sub (ws' := W_z cI cM a_z a_z_s a_z_past a_z_keeps a_z_entryKey a_z_entryDefault a_z_held a_z_values a_z_kinds a_z_news z_s z_past z_pasts z_changed z_entries z_keeps z_entryKey z_entryDefault z_counter z_held z_values z_kinds z_news) [0, 1, 2, 3, 4, 5, 6, 7, 8, 9] rfl
    refine kV (As := [.int y1, .int y5]) (rest := []) SS hKK (qX9_kindOf l D cI cM a_z a_z_s a_z_past a_z_keeps a_z_entryKey a_z_entryDefault a_z_held a_z_values a_z_kinds a_z_news z_s z_past z_pasts z_changed z_entries z_keeps z_entryKey z_entryDefault z_counter z_held z_values z_kinds z_news y1 y5 v1 ev1) cw169 hs2 0 9 rfl rfl rfl hl.1 rfl (Nat.le_of_ble_eq_true rfl) dX9_mayHoist_95 ⟨Nat.zero_le _, Nat.zero_le _⟩ ?_
    refine lv_iconst (v := 1) hx hb dX9_mayHoist_98 (by decide) ?_
    refine lv_icmp_ne (tgt := 112) hx hb dX9_mayHoist_99 (by decide) (fun c3 => ?_) (fun c3 => ?_)
    · have h := ifn h c3
      exact F112 k18 hk18 y1 y2 y3 y5 h ls (lv_sub (l' := [(0, .ref a_z), (1, .int y1), (2, .int y2), (3, .int y3), (5, .int y5)]) hl [0, 1, 2, 3, 4] rfl)
    · have h := ifp h c3
      refine lv_iload hx hb dX9_mayHoist_102 (lv_at hl 5 rfl) ?_
      refine lv_if_eq (tgt := 112) hx hb dX9_mayHoist_104 (by decide) (fun c4 => ?_) (fun c4 => ?_)
      · have h := ifp h c4
        exact F112 k18 hk18 y1 y2 y3 y5 h ls (lv_sub (l' := [(0, .ref a_z), (1, .int y1), (2, .int y2), (3, .int y3), (5, .int y5)]) hl [0, 1, 2, 3, 4] rfl)
      · have h := ifn h c4
        refine lv_iload hx hb dX9_mayHoist_107 (lv_at hl 6 rfl) ?_
        refine lv_if_ne (tgt := 116) hx hb dX9_mayHoist_109 (by decide) (fun c5 => ?_) (fun c5 => ?_)
        · have h := ifn h c5
          exact F116 k18 hk18 y1 y2 y3 y5 h ls (lv_sub (l' := [(0, .ref a_z), (1, .int y1), (2, .int y2), (3, .int y3), (5, .int y5)]) hl [0, 1, 2, 3, 4] rfl)
        · have h := ifp h c5
          exact F112 k18 hk18 y1 y2 y3 y5 h ls (lv_sub (l' := [(0, .ref a_z), (1, .int y1), (2, .int y2), (3, .int y3), (5, .int y5)]) hl [0, 1, 2, 3, 4] rfl)
  have F70 : ∀ (k18 : Int32 → Int32 → Int32 → Int32 → Int32 → Option (Int32)) (hk18 : ∀ (u1 : Int32) (u2 : Int32) (u3 : Int32) (u4 : Int32) (u5 : Int32), k18 u1 u2 u3 u4 u5 = some r → ∀ ls : Array Slot, lv_has ls 11 [(0, .ref a_z), (1, .int u1), (2, .int u2), (3, .int u3), (4, .int u4), (5, .int u5)] → WP p l e rmX9_mayHoist s m av below meth c r 18 ls []), ∀ (y1 : Int32) (y2 : Int32) (y3 : Int32) (y5 : Int32) (y6 : Int32) (y7 : Int32), jX9_mayHoist_70 z_s z_entries z_keeps k18 y1 y2 y3 y5 y6 y7 = some r → ∀ ls : Array Slot, lv_has ls 11 [(0, .ref a_z), (1, .int y1), (2, .int y2), (3, .int y3), (5, .int y5), (6, .int y6), (7, .int y7)] → WP p l e rmX9_mayHoist s m av below meth c r 70 ls [] := by
    intro k18 hk18
    intro y1 y2 y3 y5 y6 y7 h ls hl
    unfold jX9_mayHoist_70 at h
    refine lv_aload_n hx hb dX9_mayHoist_70 rfl (lv_at hl 0 rfl) ?_
    refine lv_iload_n hx hb dX9_mayHoist_71 rfl (lv_at hl 1 rfl) ?_
    refine lv_iload hx hb dX9_mayHoist_72 (lv_at hl 4 rfl) ?_
    obtain ⟨v1, ev1, h⟩ := bn_some h
    have hs2 : va_P D vwCl (W_z cI cM a_z a_z_s a_z_past a_z_keeps a_z_entryKey a_z_entryDefault a_z_held a_z_values a_z_kinds a_z_news z_s z_past z_pasts z_changed z_entries z_keeps z_entryKey z_entryDefault z_counter z_held z_values z_kinds z_news) _ := hP.sub (ws' := W_z cI cM a_z a_z_s a_z_past a_z_keeps a_z_entryKey a_z_entryDefault a_z_held a_z_values a_z_kinds a_z_news z_s z_past z_pasts z_changed z_entries z_keeps z_entryKey z_entryDefault z_counter z_held z_values z_kinds z_news) [0, 1, 2, 3, 4, 5, 6, 7, 8, 9] rfl
    refine kV (As := [.int y1, .int y5]) (rest := []) SS hKK (qX9_kindOf l D cI cM a_z a_z_s a_z_past a_z_keeps a_z_entryKey a_z_entryDefault a_z_held a_z_values a_z_kinds a_z_news z_s z_past z_pasts z_changed z_entries z_keeps z_entryKey z_entryDefault z_counter z_held z_values z_kinds z_news y1 y5 v1 ev1) cw169 hs2 0 9 rfl rfl rfl hl.1 rfl (Nat.le_of_ble_eq_true rfl) dX9_mayHoist_74 ⟨Nat.zero_le _, Nat.zero_le _⟩ ?_
    refine lv_iconst (v := 2) hx hb dX9_mayHoist_77 (by decide) ?_
    refine lv_icmp_ne (tgt := 91) hx hb dX9_mayHoist_78 (by decide) (fun c3 => ?_) (fun c3 => ?_)
    · have h := ifn h c3
      exact F91 k18 hk18 y1 y2 y3 y5 y6 y7 h ls (lv_sub (l' := [(0, .ref a_z), (1, .int y1), (2, .int y2), (3, .int y3), (5, .int y5), (6, .int y6), (7, .int y7)]) hl [0, 1, 2, 3, 4, 5, 6] rfl)
    · have h := ifp h c3
      refine lv_iload hx hb dX9_mayHoist_81 (lv_at hl 5 rfl) ?_
      refine lv_if_eq (tgt := 91) hx hb dX9_mayHoist_83 (by decide) (fun c4 => ?_) (fun c4 => ?_)
      · have h := ifp h c4
        exact F91 k18 hk18 y1 y2 y3 y5 y6 y7 h ls (lv_sub (l' := [(0, .ref a_z), (1, .int y1), (2, .int y2), (3, .int y3), (5, .int y5), (6, .int y6), (7, .int y7)]) hl [0, 1, 2, 3, 4, 5, 6] rfl)
      · have h := ifn h c4
        refine lv_iload hx hb dX9_mayHoist_86 (lv_at hl 6 rfl) ?_
        refine lv_if_eq (tgt := 116) hx hb dX9_mayHoist_88 (by decide) (fun c5 => ?_) (fun c5 => ?_)
        · have h := ifp h c5
          exact F116 k18 hk18 y1 y2 y3 y5 h ls (lv_sub (l' := [(0, .ref a_z), (1, .int y1), (2, .int y2), (3, .int y3), (5, .int y5)]) hl [0, 1, 2, 3, 4] rfl)
        · have h := ifn h c5
          exact F91 k18 hk18 y1 y2 y3 y5 y6 y7 h ls (lv_sub (l' := [(0, .ref a_z), (1, .int y1), (2, .int y2), (3, .int y3), (5, .int y5), (6, .int y6), (7, .int y7)]) hl [0, 1, 2, 3, 4, 5, 6] rfl)
  have F40 : ∀ (k18 : Int32 → Int32 → Int32 → Int32 → Int32 → Option (Int32)) (hk18 : ∀ (u1 : Int32) (u2 : Int32) (u3 : Int32) (u4 : Int32) (u5 : Int32), k18 u1 u2 u3 u4 u5 = some r → ∀ ls : Array Slot, lv_has ls 11 [(0, .ref a_z), (1, .int u1), (2, .int u2), (3, .int u3), (4, .int u4), (5, .int u5)] → WP p l e rmX9_mayHoist s m av below meth c r 18 ls []), ∀ (y1 : Int32) (y2 : Int32) (y3 : Int32) (y4 : Int32) (y5 : Int32) (s0 : Int32), jX9_mayHoist_40 z_s z_entries z_keeps k18 y1 y2 y3 y4 y5 s0 = some r → ∀ ls : Array Slot, lv_has ls 11 [(0, .ref a_z), (1, .int y1), (2, .int y2), (3, .int y3), (4, .int y4), (5, .int y5)] → WP p l e rmX9_mayHoist s m av below meth c r 40 ls [.int s0] := by
    intro k18 hk18
    intro y1 y2 y3 y4 y5 s0 h ls hl
    unfold jX9_mayHoist_40 at h
    refine lv_istore (lv' := [(6, .int s0), (0, .ref a_z), (1, .int y1), (2, .int y2), (3, .int y3), (4, .int y4), (5, .int y5)]) hx hb dX9_mayHoist_40 hl (by decide) rfl (fun ls hl => ?_)
    refine lv_iload_n hx hb dX9_mayHoist_42 rfl (lv_at hl 3 rfl) ?_
    refine lv_iload hx hb dX9_mayHoist_43 (lv_at hl 6 rfl) ?_
    obtain ⟨v1, ev1, h⟩ := bn_some h
    refine kS (As := [.int y2, .int y5]) (rest := []) SS hKK (qX9_has l D cI cM y2 y5 v1 ev1) cw48 va_P_nil rfl hl.1 rfl (Nat.le_of_ble_eq_true rfl) dX9_mayHoist_45 ⟨Nat.zero_le _, Nat.zero_le _⟩ ?_
    refine lv_istore (lv' := [(7, .int v1), (6, .int s0), (0, .ref a_z), (1, .int y1), (2, .int y2), (3, .int y3), (4, .int y4), (5, .int y5)]) hx hb dX9_mayHoist_48 hl (by decide) rfl (fun ls hl => ?_)
    refine lv_iload hx hb dX9_mayHoist_50 (lv_at hl 6 rfl) ?_
    refine lv_if_eq (tgt := 116) hx hb dX9_mayHoist_52 (by decide) (fun c2 => ?_) (fun c2 => ?_)
    · have h := ifp h c2
      exact F116 k18 hk18 y1 y2 y3 y5 h ls (lv_sub (l' := [(0, .ref a_z), (1, .int y1), (2, .int y2), (3, .int y3), (5, .int y5)]) hl [2, 3, 4, 5, 7] rfl)
    · have h := ifn h c2
      refine lv_iload hx hb dX9_mayHoist_55 (lv_at hl 0 rfl) ?_
      refine lv_if_eq (tgt := 70) hx hb dX9_mayHoist_57 (by decide) (fun c3 => ?_) (fun c3 => ?_)
      · have h := ifp h c3
        exact F70 k18 hk18 y1 y2 y3 y5 s0 v1 h ls (lv_sub (l' := [(0, .ref a_z), (1, .int y1), (2, .int y2), (3, .int y3), (5, .int y5), (6, .int s0), (7, .int v1)]) hl [2, 3, 4, 5, 7, 1, 0] rfl)
      · have h := ifn h c3
        refine lv_aload_n hx hb dX9_mayHoist_60 rfl (lv_at hl 2 rfl) ?_
        refine lv_iload_n hx hb dX9_mayHoist_61 rfl (lv_at hl 3 rfl) ?_
        refine lv_iload hx hb dX9_mayHoist_62 (lv_at hl 7 rfl) ?_
        obtain ⟨v4, ev4, h⟩ := bn_some h
        have hs5 : va_P D vwCl (W_z cI cM a_z a_z_s a_z_past a_z_keeps a_z_entryKey a_z_entryDefault a_z_held a_z_values a_z_kinds a_z_news z_s z_past z_pasts z_changed z_entries z_keeps z_entryKey z_entryDefault z_counter z_held z_values z_kinds z_news) _ := hP.sub (ws' := W_z cI cM a_z a_z_s a_z_past a_z_keeps a_z_entryKey a_z_entryDefault a_z_held a_z_values a_z_kinds a_z_news z_s z_past z_pasts z_changed z_entries z_keeps z_entryKey z_entryDefault z_counter z_held z_values z_kinds z_news) [0, 1, 2, 3, 4, 5, 6, 7, 8, 9] rfl
        refine kV (As := [.int y1, .int y5]) (rest := []) SS hKK (qX9_doesCount l D cI cM a_z a_z_s a_z_past a_z_keeps a_z_entryKey a_z_entryDefault a_z_held a_z_values a_z_kinds a_z_news z_s z_past z_pasts z_changed z_entries z_keeps z_entryKey z_entryDefault z_counter z_held z_values z_kinds z_news y1 y5 v4 ev4) cw172 hs5 0 9 rfl rfl rfl hl.1 rfl (Nat.le_of_ble_eq_true rfl) dX9_mayHoist_64 ⟨Nat.zero_le _, Nat.zero_le _⟩ ?_
        refine lv_if_eq (tgt := 116) hx hb dX9_mayHoist_67 (by decide) (fun c6 => ?_) (fun c6 => ?_)
        · have h := ifp h c6
          exact F116 k18 hk18 y1 y2 y3 y5 h ls (lv_sub (l' := [(0, .ref a_z), (1, .int y1), (2, .int y2), (3, .int y3), (5, .int y5)]) hl [2, 3, 4, 5, 7] rfl)
        · have h := ifn h c6
          exact F70 k18 hk18 y1 y2 y3 y5 s0 v1 h ls (lv_sub (l' := [(0, .ref a_z), (1, .int y1), (2, .int y2), (3, .int y3), (5, .int y5), (6, .int s0), (7, .int v1)]) hl [2, 3, 4, 5, 7, 1, 0] rfl)
  have F18 : ∀ (n : Nat) (y1 : Int32) (y2 : Int32) (y3 : Int32) (y4 : Int32) (y5 : Int32), lX9_mayHoist_18 z_s z_entries z_keeps n y1 y2 y3 y4 y5 = some r → ∀ ls : Array Slot, lv_has ls 11 [(0, .ref a_z), (1, .int y1), (2, .int y2), (3, .int y3), (4, .int y4), (5, .int y5)] → WP p l e rmX9_mayHoist s m av below meth c r 18 ls [] := by
    intro n
    induction n with
    | zero => intro y1 y2 y3 y4 y5 h; exact no_some h
    | succ n ih =>
      intro y1 y2 y3 y4 y5 h ls hl
      rw [lX9_mayHoist_18_s] at h
      refine lv_iload hx hb dX9_mayHoist_18 (lv_at hl 5 rfl) ?_
      refine lv_iload_n hx hb dX9_mayHoist_20 rfl (lv_at hl 3 rfl) ?_
      refine lv_icmp_ge (tgt := 260) hx hb dX9_mayHoist_21 (by decide) (fun c1 => ?_) (fun c1 => ?_)
      · have h := ifp h c1
        refine lv_iload hx hb dX9_mayHoist_260 (lv_at hl 4 rfl) ?_
        exact kRetZ hx hb hr hlk (rb_some h).2 (rb_some h).1 dX9_mayHoist_262
      · have h := ifn h c1
        refine lv_aload_n hx hb dX9_mayHoist_24 rfl (lv_at hl 0 rfl) ?_
        refine lv_iload hx hb dX9_mayHoist_25 (lv_at hl 5 rfl) ?_
        obtain ⟨v2, ev2, h⟩ := bn_some h
        have hs3 : va_P D vwCl (W_z cI cM a_z a_z_s a_z_past a_z_keeps a_z_entryKey a_z_entryDefault a_z_held a_z_values a_z_kinds a_z_news z_s z_past z_pasts z_changed z_entries z_keeps z_entryKey z_entryDefault z_counter z_held z_values z_kinds z_news) _ := hP.sub (ws' := W_z cI cM a_z a_z_s a_z_past a_z_keeps a_z_entryKey a_z_entryDefault a_z_held a_z_values a_z_kinds a_z_news z_s z_past z_pasts z_changed z_entries z_keeps z_entryKey z_entryDefault z_counter z_held z_values z_kinds z_news) [0, 1, 2, 3, 4, 5, 6, 7, 8, 9] rfl
        refine kV (As := [.int y5]) (rest := []) SS hKK (qX9_entryOf l D cI cM a_z a_z_s a_z_past a_z_keeps a_z_entryKey a_z_entryDefault a_z_held a_z_values a_z_kinds a_z_news z_s z_past z_pasts z_changed z_entries z_keeps z_entryKey z_entryDefault z_counter z_held z_values z_kinds z_news y5 v2 ev2) cw157 hs3 0 9 rfl rfl rfl hl.1 rfl (Nat.le_of_ble_eq_true rfl) dX9_mayHoist_27 ⟨Nat.zero_le _, Nat.zero_le _⟩ ?_
        refine lv_bipush (v := (-9)) hx hb dX9_mayHoist_30 (by decide) ?_
        refine lv_icmp_ne (tgt := 39) hx hb dX9_mayHoist_32 (by decide) (fun c4 => ?_) (fun c4 => ?_)
        · have h := ifn h c4
          refine lv_iconst (v := 0) hx hb dX9_mayHoist_39 (by decide) ?_
          exact F40 (fun u1 u2 u3 u4 u5 => lX9_mayHoist_18 z_s z_entries z_keeps n u1 u2 u3 u4 u5) (fun u1 u2 u3 u4 u5 h ls hl => ih u1 u2 u3 u4 u5 h ls hl) y1 y2 y3 y4 y5 0 h ls (lv_sub (l' := [(0, .ref a_z), (1, .int y1), (2, .int y2), (3, .int y3), (4, .int y4), (5, .int y5)]) hl [0, 1, 2, 3, 4, 5] rfl)
        · have h := ifp h c4
          refine lv_iconst (v := 1) hx hb dX9_mayHoist_35 (by decide) ?_
          refine lv_goto (tgt := 40) hx hb dX9_mayHoist_36 (by decide) ?_
          exact F40 (fun u1 u2 u3 u4 u5 => lX9_mayHoist_18 z_s z_entries z_keeps n u1 u2 u3 u4 u5) (fun u1 u2 u3 u4 u5 h ls hl => ih u1 u2 u3 u4 u5 h ls hl) y1 y2 y3 y4 y5 1 h ls (lv_sub (l' := [(0, .ref a_z), (1, .int y1), (2, .int y2), (3, .int y3), (4, .int y4), (5, .int y5)]) hl [0, 1, 2, 3, 4, 5] rfl)
  unfold fX9_mayHoist at h
  refine lv_aload_n hx hb dX9_mayHoist_0 rfl (lv_at hl 0 rfl) ?_
  refine va_get (D := D) (ci := 9) (v := .ref a_z_s) (C := RX9) (T := TX9) (N := 13) hx hb hts hinX9 hown hKK.1 hP 0 rfl rfl 0 (by decide) lk7 (fun _ h9 => h9) rfl dX9_mayHoist_1 ?_
  refine lv_aload_n hx hb dX9_mayHoist_4 rfl (lv_at hl 0 rfl) ?_
  refine lv_iload_n hx hb dX9_mayHoist_5 rfl (lv_at hl 1 rfl) ?_
  refine lv_iconst (v := 4) hx hb dX9_mayHoist_6 (by decide) ?_
  obtain ⟨v1, ev1, h⟩ := bn_some h
  have hs2 : va_P D vwCl (W_z cI cM a_z a_z_s a_z_past a_z_keeps a_z_entryKey a_z_entryDefault a_z_held a_z_values a_z_kinds a_z_news z_s z_past z_pasts z_changed z_entries z_keeps z_entryKey z_entryDefault z_counter z_held z_values z_kinds z_news) _ := hP.sub (ws' := W_z cI cM a_z a_z_s a_z_past a_z_keeps a_z_entryKey a_z_entryDefault a_z_held a_z_values a_z_kinds a_z_news z_s z_past z_pasts z_changed z_entries z_keeps z_entryKey z_entryDefault z_counter z_held z_values z_kinds z_news) [0, 1, 2, 3, 4, 5, 6, 7, 8, 9] rfl
  refine kV (As := [.int x1, .int 4]) (rest := [.ref a_z_s]) SS hKK (qX9_at l D cI cM a_z a_z_s a_z_past a_z_keeps a_z_entryKey a_z_entryDefault a_z_held a_z_values a_z_kinds a_z_news z_s z_past z_pasts z_changed z_entries z_keeps z_entryKey z_entryDefault z_counter z_held z_values z_kinds z_news x1 4 v1 ev1) cw111 hs2 0 9 rfl rfl rfl hl.1 rfl (Nat.le_of_ble_eq_true rfl) dX9_mayHoist_7 ⟨Nat.zero_le _, Nat.zero_le _⟩ ?_
  obtain ⟨v3, iv3, ev3, h⟩ := rd_some h
  refine kAld hx hb hKK hP 1 rfl iv3 ev3 dX9_mayHoist_10 ?_
  refine lv_istore_n (lv' := [(3, .int v3), (0, .ref a_z), (1, .int x1), (2, .int x2)]) hx hb dX9_mayHoist_11 rfl hl (by decide) rfl (fun ls hl => ?_)
  refine lv_iconst (v := 1) hx hb dX9_mayHoist_12 (by decide) ?_
  refine lv_istore (lv' := [(4, .int 1), (3, .int v3), (0, .ref a_z), (1, .int x1), (2, .int x2)]) hx hb dX9_mayHoist_13 hl (by decide) rfl (fun ls hl => ?_)
  refine lv_iconst (v := 0) hx hb dX9_mayHoist_15 (by decide) ?_
  refine lv_istore (lv' := [(5, .int 0), (4, .int 1), (3, .int v3), (0, .ref a_z), (1, .int x1), (2, .int x2)]) hx hb dX9_mayHoist_16 hl (by decide) rfl (fun ls hl => ?_)
  exact F18 5000 x1 x2 v3 1 0 h ls (lv_sub (l' := [(0, .ref a_z), (1, .int x1), (2, .int x2), (3, .int v3), (4, .int 1), (5, .int 0)]) hl [3, 4, 5, 2, 1, 0] rfl)
set_option maxHeartbeats 8000000 in
set_option maxRecDepth 100000 in
theorem qX9_hoistedOf (l : Launch) (D : va_G) (cI cM : ClassId) (a_z a_z_s a_z_past a_z_keeps a_z_entryKey a_z_entryDefault a_z_held a_z_values a_z_kinds a_z_news : Nat) (z_s : Nat → Int32) (z_past : Nat → Int32) (z_pasts : Int32) (z_changed : Int32) (z_entries : Int32) (z_keeps : Nat → Int32) (z_entryKey : Nat → Int32) (z_entryDefault : Nat → Int32) (z_counter : Int32) (z_held : Nat → Int32) (z_values : Nat → Int32) (z_kinds : Nat → Int32) (z_news : Nat → Int32) (x1 : Int32) (r : Int32) (h : fX9_hoistedOf z_s z_entries z_keeps x1 = some r) : PM l yX9_hoistedOf wsX9_hoistedOf rmX9_hoistedOf D cI cM [.ref a_z, .int x1] (W_z cI cM a_z a_z_s a_z_past a_z_keeps a_z_entryKey a_z_entryDefault a_z_held a_z_values a_z_kinds a_z_news z_s z_past z_pasts z_changed z_entries z_keeps z_entryKey z_entryDefault z_counter z_held z_values z_kinds z_news) r := by
  refine PM.of (cc := cX9_hoistedOf) (maxL := 5) (ret := (some .int)) (by decide) rfl (Nat.le_of_ble_eq_true rfl) ?_
  intro p e s m below meth c ls hx hb hr hml hown hts hlk hP hKK hl
  have hown : s.vm.findClass RX9 = some m.cls := hown
  have hl : lv_has ls 5 [(0, .ref a_z), (1, .int x1)] := hl
  generalize hav : ([.ref a_z, .int x1] : List Value) = av at hts ⊢
  have SS : CallFix p m c cX9_hoistedOf 5 s av.toArray wsX9_hoistedOf RX9 := ⟨hx, hb, hml, hown, hts⟩
  have hinX9 : ∀ w ∈ u_ws RX9 TX9 13, w ∈ wsX9_hoistedOf := by decide +kernel
  have lk7 := hts (.fieldLink RX9 7 "SignatureChangerModel" "s" "[I") (List.mem_of_getElem? (i := 1) rfl)
  have cw111 : CallW rmX9_hoistedOf s av.toArray RX9 RX9 111 yX9_at cX9_at 3 (some .int) wsX9_at rmX9_at 0 0 2 := cwV 2 hts gX9_hoistedOf_X9_at rfl rfl rfl (by decide +kernel) ⟨Nat.le_of_ble_eq_true rfl, Nat.le_of_ble_eq_true rfl⟩
  have cw154 : CallB rmX9_hoistedOf s av.toArray RX9 154 yX9_ones cX9_ones 3 (some .int) wsX9_ones rmX9_ones 0 0 1 ∧ (Cond.static yX9_ones).before av.toArray s = true := va_cwS 1 hts gX9_hoistedOf_X9_ones rfl rfl rfl (by decide +kernel) ⟨Nat.le_of_ble_eq_true rfl, Nat.le_of_ble_eq_true rfl⟩
  have cw178 : CallW rmX9_hoistedOf s av.toArray RX9 RX9 178 yX9_mayHoist cX9_mayHoist 11 (some .boolean) wsX9_mayHoist rmX9_mayHoist 0 0 2 := cwV 2 hts gX9_hoistedOf_X9_mayHoist rfl rfl rfl (by decide +kernel) ⟨Nat.le_of_ble_eq_true rfl, Nat.le_of_ble_eq_true rfl⟩
  have F65 : ∀ (k5 : Int32 → Int32 → Int32 → Option (Int32)) (hk5 : ∀ (u1 : Int32) (u2 : Int32) (u3 : Int32), k5 u1 u2 u3 = some r → ∀ ls : Array Slot, lv_has ls 5 [(0, .ref a_z), (1, .int u1), (2, .int u2), (3, .int u3)] → WP p l e rmX9_hoistedOf s m av below meth c r 5 ls []), ∀ (y1 : Int32) (y3 : Int32) (s0 : Int32), jX9_hoistedOf_65 z_s z_entries z_keeps k5 y1 y3 s0 = some r → ∀ ls : Array Slot, lv_has ls 5 [(0, .ref a_z), (1, .int y1), (3, .int y3)] → WP p l e rmX9_hoistedOf s m av below meth c r 65 ls [.int s0] := by
    intro k5 hk5
    intro y1 y3 s0 h ls hl
    unfold jX9_hoistedOf_65 at h
    refine lv_istore_n (lv' := [(2, .int s0), (0, .ref a_z), (1, .int y1), (3, .int y3)]) hx hb dX9_hoistedOf_65 rfl hl (by decide) rfl (fun ls hl => ?_)
    refine lv_iinc (v := y3 + 1) (lv' := [(3, .int (y3 + 1)), (2, .int s0), (0, .ref a_z), (1, .int y1)]) hx hb dX9_hoistedOf_66 hl (k := 3) rfl rfl (by decide) rfl (fun ls hl => ?_)
    refine lv_goto (tgt := 5) hx hb dX9_hoistedOf_69 (by decide) ?_
    exact hk5 y1 s0 (y3 + 1) h ls (lv_sub (l' := [(0, .ref a_z), (1, .int y1), (2, .int s0), (3, .int (y3 + 1))]) hl [2, 3, 1, 0] rfl)
  have F64 : ∀ (k5 : Int32 → Int32 → Int32 → Option (Int32)) (hk5 : ∀ (u1 : Int32) (u2 : Int32) (u3 : Int32), k5 u1 u2 u3 = some r → ∀ ls : Array Slot, lv_has ls 5 [(0, .ref a_z), (1, .int u1), (2, .int u2), (3, .int u3)] → WP p l e rmX9_hoistedOf s m av below meth c r 5 ls []), ∀ (y1 : Int32) (y2 : Int32) (y3 : Int32), jX9_hoistedOf_64 z_s z_entries z_keeps k5 y1 y2 y3 = some r → ∀ ls : Array Slot, lv_has ls 5 [(0, .ref a_z), (1, .int y1), (2, .int y2), (3, .int y3)] → WP p l e rmX9_hoistedOf s m av below meth c r 64 ls [] := by
    intro k5 hk5
    intro y1 y2 y3 h ls hl
    unfold jX9_hoistedOf_64 at h
    refine lv_iload_n hx hb dX9_hoistedOf_64 rfl (lv_at hl 2 rfl) ?_
    exact F65 k5 hk5 y1 y3 y2 h ls (lv_sub (l' := [(0, .ref a_z), (1, .int y1), (3, .int y3)]) hl [0, 1, 3] rfl)
  have F44 : ∀ (k5 : Int32 → Int32 → Int32 → Option (Int32)) (hk5 : ∀ (u1 : Int32) (u2 : Int32) (u3 : Int32), k5 u1 u2 u3 = some r → ∀ ls : Array Slot, lv_has ls 5 [(0, .ref a_z), (1, .int u1), (2, .int u2), (3, .int u3)] → WP p l e rmX9_hoistedOf s m av below meth c r 5 ls []), ∀ (y1 : Int32) (y2 : Int32) (y3 : Int32) (s0 : Int32), jX9_hoistedOf_44 z_s z_entries z_keeps k5 y1 y2 y3 s0 = some r → ∀ ls : Array Slot, lv_has ls 5 [(0, .ref a_z), (1, .int y1), (2, .int y2), (3, .int y3)] → WP p l e rmX9_hoistedOf s m av below meth c r 44 ls [.int s0] := by
    intro k5 hk5
    intro y1 y2 y3 s0 h ls hl
    unfold jX9_hoistedOf_44 at h
    refine lv_istore (lv' := [(4, .int s0), (0, .ref a_z), (1, .int y1), (2, .int y2), (3, .int y3)]) hx hb dX9_hoistedOf_44 hl (by decide) rfl (fun ls hl => ?_)
    refine lv_iload hx hb dX9_hoistedOf_46 (lv_at hl 0 rfl) ?_
    refine lv_if_eq (tgt := 64) hx hb dX9_hoistedOf_48 (by decide) (fun c1 => ?_) (fun c1 => ?_)
    · have h := ifp h c1
      exact F64 k5 hk5 y1 y2 y3 h ls (lv_sub (l' := [(0, .ref a_z), (1, .int y1), (2, .int y2), (3, .int y3)]) hl [1, 2, 3, 4] rfl)
    · have h := ifn h c1
      refine lv_aload_n hx hb dX9_hoistedOf_51 rfl (lv_at hl 1 rfl) ?_
      refine lv_iload_n hx hb dX9_hoistedOf_52 rfl (lv_at hl 2 rfl) ?_
      refine lv_iload_n hx hb dX9_hoistedOf_53 rfl (lv_at hl 4 rfl) ?_
      obtain ⟨v2, ev2, h⟩ := bn_some h
      have hs3 : va_P D vwCl (W_z cI cM a_z a_z_s a_z_past a_z_keeps a_z_entryKey a_z_entryDefault a_z_held a_z_values a_z_kinds a_z_news z_s z_past z_pasts z_changed z_entries z_keeps z_entryKey z_entryDefault z_counter z_held z_values z_kinds z_news) _ := hP.sub (ws' := W_z cI cM a_z a_z_s a_z_past a_z_keeps a_z_entryKey a_z_entryDefault a_z_held a_z_values a_z_kinds a_z_news z_s z_past z_pasts z_changed z_entries z_keeps z_entryKey z_entryDefault z_counter z_held z_values z_kinds z_news) [0, 1, 2, 3, 4, 5, 6, 7, 8, 9] rfl
      refine kV (As := [.int y1, .int y3]) (rest := []) SS hKK (qX9_mayHoist l D cI cM a_z a_z_s a_z_past a_z_keeps a_z_entryKey a_z_entryDefault a_z_held a_z_values a_z_kinds a_z_news z_s z_past z_pasts z_changed z_entries z_keeps z_entryKey z_entryDefault z_counter z_held z_values z_kinds z_news y1 y3 v2 ev2) cw178 hs3 0 9 rfl rfl rfl hl.1 rfl (Nat.le_of_ble_eq_true rfl) dX9_hoistedOf_54 ⟨Nat.zero_le _, Nat.zero_le _⟩ ?_
      refine lv_if_eq (tgt := 64) hx hb dX9_hoistedOf_57 (by decide) (fun c4 => ?_) (fun c4 => ?_)
      · have h := ifp h c4
        exact F64 k5 hk5 y1 y2 y3 h ls (lv_sub (l' := [(0, .ref a_z), (1, .int y1), (2, .int y2), (3, .int y3)]) hl [1, 2, 3, 4] rfl)
      · have h := ifn h c4
        refine lv_iload_n hx hb dX9_hoistedOf_60 rfl (lv_at hl 4 rfl) ?_
        refine lv_goto (tgt := 65) hx hb dX9_hoistedOf_61 (by decide) ?_
        exact F65 k5 hk5 y1 y3 y3 h ls (lv_sub (l' := [(0, .ref a_z), (1, .int y1), (3, .int y3)]) hl [1, 2, 4] rfl)
  have F39 : ∀ (k5 : Int32 → Int32 → Int32 → Option (Int32)) (hk5 : ∀ (u1 : Int32) (u2 : Int32) (u3 : Int32), k5 u1 u2 u3 = some r → ∀ ls : Array Slot, lv_has ls 5 [(0, .ref a_z), (1, .int u1), (2, .int u2), (3, .int u3)] → WP p l e rmX9_hoistedOf s m av below meth c r 5 ls []), ∀ (y1 : Int32) (y2 : Int32) (y3 : Int32), jX9_hoistedOf_39 z_s z_entries z_keeps k5 y1 y2 y3 = some r → ∀ ls : Array Slot, lv_has ls 5 [(0, .ref a_z), (1, .int y1), (2, .int y2), (3, .int y3)] → WP p l e rmX9_hoistedOf s m av below meth c r 39 ls [] := by
    intro k5 hk5
    intro y1 y2 y3 h ls hl
    unfold jX9_hoistedOf_39 at h
    refine lv_iconst (v := 1) hx hb dX9_hoistedOf_39 (by decide) ?_
    refine lv_goto (tgt := 44) hx hb dX9_hoistedOf_40 (by decide) ?_
    exact F44 k5 hk5 y1 y2 y3 1 h ls (lv_sub (l' := [(0, .ref a_z), (1, .int y1), (2, .int y2), (3, .int y3)]) hl [0, 1, 2, 3] rfl)
  have F5 : ∀ (n : Nat) (y1 : Int32) (y2 : Int32) (y3 : Int32), lX9_hoistedOf_5 z_s z_entries z_keeps n y1 y2 y3 = some r → ∀ ls : Array Slot, lv_has ls 5 [(0, .ref a_z), (1, .int y1), (2, .int y2), (3, .int y3)] → WP p l e rmX9_hoistedOf s m av below meth c r 5 ls [] := by
    intro n
    induction n with
    | zero => intro y1 y2 y3 h; exact no_some h
    | succ n ih =>
      intro y1 y2 y3 h ls hl
      rw [lX9_hoistedOf_5_s] at h
      refine lv_iload_n hx hb dX9_hoistedOf_5 rfl (lv_at hl 3 rfl) ?_
      refine lv_iconst (v := 1) hx hb dX9_hoistedOf_6 (by decide) ?_
      refine lv_aload_n hx hb dX9_hoistedOf_7 rfl (lv_at hl 0 rfl) ?_
      refine va_get (D := D) (ci := 9) (v := .ref a_z_s) (C := RX9) (T := TX9) (N := 13) hx hb hts hinX9 hown hKK.1 hP 0 rfl rfl 0 (by decide) lk7 (fun _ h9 => h9) rfl dX9_hoistedOf_8 ?_
      refine lv_aload_n hx hb dX9_hoistedOf_11 rfl (lv_at hl 0 rfl) ?_
      refine lv_iload_n hx hb dX9_hoistedOf_12 rfl (lv_at hl 1 rfl) ?_
      refine lv_iconst (v := 4) hx hb dX9_hoistedOf_13 (by decide) ?_
      obtain ⟨v1, ev1, h⟩ := bn_some h
      have hs2 : va_P D vwCl (W_z cI cM a_z a_z_s a_z_past a_z_keeps a_z_entryKey a_z_entryDefault a_z_held a_z_values a_z_kinds a_z_news z_s z_past z_pasts z_changed z_entries z_keeps z_entryKey z_entryDefault z_counter z_held z_values z_kinds z_news) _ := hP.sub (ws' := W_z cI cM a_z a_z_s a_z_past a_z_keeps a_z_entryKey a_z_entryDefault a_z_held a_z_values a_z_kinds a_z_news z_s z_past z_pasts z_changed z_entries z_keeps z_entryKey z_entryDefault z_counter z_held z_values z_kinds z_news) [0, 1, 2, 3, 4, 5, 6, 7, 8, 9] rfl
      refine kV (As := [.int y1, .int 4]) (rest := [.ref a_z_s, .int 1, .int y3]) SS hKK (qX9_at l D cI cM a_z a_z_s a_z_past a_z_keeps a_z_entryKey a_z_entryDefault a_z_held a_z_values a_z_kinds a_z_news z_s z_past z_pasts z_changed z_entries z_keeps z_entryKey z_entryDefault z_counter z_held z_values z_kinds z_news y1 4 v1 ev1) cw111 hs2 0 9 rfl rfl rfl hl.1 rfl (Nat.le_of_ble_eq_true rfl) dX9_hoistedOf_14 ⟨Nat.zero_le _, Nat.zero_le _⟩ ?_
      obtain ⟨v3, iv3, ev3, h⟩ := rd_some h
      refine kAld hx hb hKK hP 1 rfl iv3 ev3 dX9_hoistedOf_17 ?_
      refine lv_ishl hx hb dX9_hoistedOf_18 ?_
      refine lv_icmp_ge (tgt := 72) hx hb dX9_hoistedOf_19 (by decide) (fun c4 => ?_) (fun c4 => ?_)
      · have h := ifp h c4
        refine lv_iload_n hx hb dX9_hoistedOf_72 rfl (lv_at hl 2 rfl) ?_
        exact kRet hx hb hr hlk (Option.some.inj h) dX9_hoistedOf_73
      · have h := ifn h c4
        refine lv_iload_n hx hb dX9_hoistedOf_22 rfl (lv_at hl 2 rfl) ?_
        refine lv_bipush (v := (-9)) hx hb dX9_hoistedOf_23 (by decide) ?_
        refine lv_icmp_eq (tgt := 39) hx hb dX9_hoistedOf_25 (by decide) (fun c5 => ?_) (fun c5 => ?_)
        · have h := ifp h c5
          exact F39 (fun u1 u2 u3 => lX9_hoistedOf_5 z_s z_entries z_keeps n u1 u2 u3) (fun u1 u2 u3 h ls hl => ih u1 u2 u3 h ls hl) y1 y2 y3 h ls (lv_sub (l' := [(0, .ref a_z), (1, .int y1), (2, .int y2), (3, .int y3)]) hl [0, 1, 2, 3] rfl)
        · have h := ifn h c5
          refine lv_iload_n hx hb dX9_hoistedOf_28 rfl (lv_at hl 3 rfl) ?_
          obtain ⟨v6, ev6, h⟩ := bn_some h
          refine kS (As := [.int y3]) (rest := []) SS hKK (qX9_ones l D cI cM y3 v6 ev6) cw154 va_P_nil rfl hl.1 rfl (Nat.le_of_ble_eq_true rfl) dX9_hoistedOf_29 ⟨Nat.zero_le _, Nat.zero_le _⟩ ?_
          refine lv_iload_n hx hb dX9_hoistedOf_32 rfl (lv_at hl 2 rfl) ?_
          obtain ⟨v7, ev7, h⟩ := bn_some h
          refine kS (As := [.int y2]) (rest := [.int v6]) SS hKK (qX9_ones l D cI cM y2 v7 ev7) cw154 va_P_nil rfl hl.1 rfl (Nat.le_of_ble_eq_true rfl) dX9_hoistedOf_33 ⟨Nat.zero_le _, Nat.zero_le _⟩ ?_
          refine lv_icmp_ge (tgt := 43) hx hb dX9_hoistedOf_36 (by decide) (fun c8 => ?_) (fun c8 => ?_)
          · have h := ifp h c8
            refine lv_iconst (v := 0) hx hb dX9_hoistedOf_43 (by decide) ?_
            exact F44 (fun u1 u2 u3 => lX9_hoistedOf_5 z_s z_entries z_keeps n u1 u2 u3) (fun u1 u2 u3 h ls hl => ih u1 u2 u3 h ls hl) y1 y2 y3 0 h ls (lv_sub (l' := [(0, .ref a_z), (1, .int y1), (2, .int y2), (3, .int y3)]) hl [0, 1, 2, 3] rfl)
          · have h := ifn h c8
            exact F39 (fun u1 u2 u3 => lX9_hoistedOf_5 z_s z_entries z_keeps n u1 u2 u3) (fun u1 u2 u3 h ls hl => ih u1 u2 u3 h ls hl) y1 y2 y3 h ls (lv_sub (l' := [(0, .ref a_z), (1, .int y1), (2, .int y2), (3, .int y3)]) hl [0, 1, 2, 3] rfl)
  unfold fX9_hoistedOf at h
  refine lv_bipush (v := (-9)) hx hb dX9_hoistedOf_0 (by decide) ?_
  refine lv_istore_n (lv' := [(2, .int (-9)), (0, .ref a_z), (1, .int x1)]) hx hb dX9_hoistedOf_2 rfl hl (by decide) rfl (fun ls hl => ?_)
  refine lv_iconst (v := 0) hx hb dX9_hoistedOf_3 (by decide) ?_
  refine lv_istore_n (lv' := [(3, .int 0), (2, .int (-9)), (0, .ref a_z), (1, .int x1)]) hx hb dX9_hoistedOf_4 rfl hl (by decide) rfl (fun ls hl => ?_)
  exact F5 5000 x1 (-9) 0 h ls (lv_sub (l' := [(0, .ref a_z), (1, .int x1), (2, .int (-9)), (3, .int 0)]) hl [2, 3, 1, 0] rfl)
set_option maxHeartbeats 8000000 in
set_option maxRecDepth 100000 in
theorem qX9_hoistedArguments (l : Launch) (D : va_G) (cI cM : ClassId) (a_z a_z_s a_z_past a_z_keeps a_z_entryKey a_z_entryDefault a_z_held a_z_values a_z_kinds a_z_news : Nat) (z_s : Nat → Int32) (z_past : Nat → Int32) (z_pasts : Int32) (z_changed : Int32) (z_entries : Int32) (z_keeps : Nat → Int32) (z_entryKey : Nat → Int32) (z_entryDefault : Nat → Int32) (z_counter : Int32) (z_held : Nat → Int32) (z_values : Nat → Int32) (z_kinds : Nat → Int32) (z_news : Nat → Int32) (x1 : Int32) (r : Int32) (h : fX9_hoistedArguments z_s z_changed z_entries z_keeps x1 = some r) : PM l yX9_hoistedArguments wsX9_hoistedArguments rmX9_hoistedArguments D cI cM [.ref a_z, .int x1] (W_z cI cM a_z a_z_s a_z_past a_z_keeps a_z_entryKey a_z_entryDefault a_z_held a_z_values a_z_kinds a_z_news z_s z_past z_pasts z_changed z_entries z_keeps z_entryKey z_entryDefault z_counter z_held z_values z_kinds z_news) r := by
  refine PM.of (cc := cX9_hoistedArguments) (maxL := 2) (ret := (some .int)) (by decide) rfl (Nat.le_of_ble_eq_true rfl) ?_
  intro p e s m below meth c ls hx hb hr hml hown hts hlk hP hKK hl
  have hown : s.vm.findClass RX9 = some m.cls := hown
  have hl : lv_has ls 2 [(0, .ref a_z), (1, .int x1)] := hl
  generalize hav : ([.ref a_z, .int x1] : List Value) = av at hts ⊢
  have SS : CallFix p m c cX9_hoistedArguments 2 s av.toArray wsX9_hoistedArguments RX9 := ⟨hx, hb, hml, hown, hts⟩
  have hinX9 : ∀ w ∈ u_ws RX9 TX9 13, w ∈ wsX9_hoistedArguments := by decide +kernel
  have lk16 := hts (.fieldLink RX9 16 "SignatureChangerModel" "changed" "I") (List.mem_of_getElem? (i := 1) rfl)
  have cw117 : CallW rmX9_hoistedArguments s av.toArray RX9 RX9 117 yX9_isCall cX9_isCall 2 (some .boolean) wsX9_isCall rmX9_isCall 0 0 1 := cwV 1 hts gX9_hoistedArguments_X9_isCall rfl rfl rfl (by decide +kernel) ⟨Nat.le_of_ble_eq_true rfl, Nat.le_of_ble_eq_true rfl⟩
  have cw123 : CallW rmX9_hoistedArguments s av.toArray RX9 RX9 123 yX9_isFrozen cX9_isFrozen 2 (some .boolean) wsX9_isFrozen rmX9_isFrozen 0 0 1 := cwV 1 hts gX9_hoistedArguments_X9_isFrozen rfl rfl rfl (by decide +kernel) ⟨Nat.le_of_ble_eq_true rfl, Nat.le_of_ble_eq_true rfl⟩
  have cw181 : CallW rmX9_hoistedArguments s av.toArray RX9 RX9 181 yX9_isConcerned cX9_isConcerned 2 (some .boolean) wsX9_isConcerned rmX9_isConcerned 0 0 1 := cwV 1 hts gX9_hoistedArguments_X9_isConcerned rfl rfl rfl (by decide +kernel) ⟨Nat.le_of_ble_eq_true rfl, Nat.le_of_ble_eq_true rfl⟩
  have cw184 : CallW rmX9_hoistedArguments s av.toArray RX9 RX9 184 yX9_hoistedOf cX9_hoistedOf 5 (some .int) wsX9_hoistedOf rmX9_hoistedOf 0 0 1 := cwV 1 hts gX9_hoistedArguments_X9_hoistedOf rfl rfl rfl (by decide +kernel) ⟨Nat.le_of_ble_eq_true rfl, Nat.le_of_ble_eq_true rfl⟩
  unfold fX9_hoistedArguments at h
  refine lv_aload_n hx hb dX9_hoistedArguments_0 rfl (lv_at hl 0 rfl) ?_
  refine lv_iload_n hx hb dX9_hoistedArguments_1 rfl (lv_at hl 1 rfl) ?_
  obtain ⟨v1, ev1, h⟩ := bn_some h
  have hs2 : va_P D vwCl (W_z cI cM a_z a_z_s a_z_past a_z_keeps a_z_entryKey a_z_entryDefault a_z_held a_z_values a_z_kinds a_z_news z_s z_past z_pasts z_changed z_entries z_keeps z_entryKey z_entryDefault z_counter z_held z_values z_kinds z_news) _ := hP.sub (ws' := W_z cI cM a_z a_z_s a_z_past a_z_keeps a_z_entryKey a_z_entryDefault a_z_held a_z_values a_z_kinds a_z_news z_s z_past z_pasts z_changed z_entries z_keeps z_entryKey z_entryDefault z_counter z_held z_values z_kinds z_news) [0, 1, 2, 3, 4, 5, 6, 7, 8, 9] rfl
  refine kV (As := [.int x1]) (rest := []) SS hKK (qX9_isCall l D cI cM a_z a_z_s a_z_past a_z_keeps a_z_entryKey a_z_entryDefault a_z_held a_z_values a_z_kinds a_z_news z_s z_past z_pasts z_changed z_entries z_keeps z_entryKey z_entryDefault z_counter z_held z_values z_kinds z_news x1 v1 ev1) cw117 hs2 0 9 rfl rfl rfl hl.1 rfl (Nat.le_of_ble_eq_true rfl) dX9_hoistedArguments_2 ⟨Nat.zero_le _, Nat.zero_le _⟩ ?_
  refine lv_if_ne (tgt := 10) hx hb dX9_hoistedArguments_5 (by decide) (fun c3 => ?_) (fun c3 => ?_)
  · have h := ifn h c3
    refine lv_aload_n hx hb dX9_hoistedArguments_10 rfl (lv_at hl 0 rfl) ?_
    refine va_get (D := D) (ci := 9) (v := .int z_changed) (C := RX9) (T := TX9) (N := 13) hx hb hts hinX9 hown hKK.1 hP 0 rfl rfl 3 (by decide) lk16 (fun _ h9 => h9) rfl dX9_hoistedArguments_11 ?_
    refine lv_bipush (v := (-9)) hx hb dX9_hoistedArguments_14 (by decide) ?_
    refine lv_icmp_ne (tgt := 22) hx hb dX9_hoistedArguments_16 (by decide) (fun c4 => ?_) (fun c4 => ?_)
    · have h := ifn h c4
      refine lv_aload_n hx hb dX9_hoistedArguments_22 rfl (lv_at hl 0 rfl) ?_
      refine lv_iload_n hx hb dX9_hoistedArguments_23 rfl (lv_at hl 1 rfl) ?_
      obtain ⟨v5, ev5, h⟩ := bn_some h
      refine kV (As := [.int x1]) (rest := []) SS hKK (qX9_isFrozen l D cI cM a_z a_z_s a_z_past a_z_keeps a_z_entryKey a_z_entryDefault a_z_held a_z_values a_z_kinds a_z_news z_s z_past z_pasts z_changed z_entries z_keeps z_entryKey z_entryDefault z_counter z_held z_values z_kinds z_news x1 v5 ev5) cw123 hs2 0 9 rfl rfl rfl hl.1 rfl (Nat.le_of_ble_eq_true rfl) dX9_hoistedArguments_24 ⟨Nat.zero_le _, Nat.zero_le _⟩ ?_
      refine lv_if_ne (tgt := 38) hx hb dX9_hoistedArguments_27 (by decide) (fun c6 => ?_) (fun c6 => ?_)
      · have h := ifn h c6
        refine lv_iconst (v := 0) hx hb dX9_hoistedArguments_38 (by decide) ?_
        refine lv_goto (tgt := 47) hx hb dX9_hoistedArguments_39 (by decide) ?_
        exact kRet hx hb hr hlk (Option.some.inj h) dX9_hoistedArguments_47
      · have h := ifp h c6
        refine lv_aload_n hx hb dX9_hoistedArguments_30 rfl (lv_at hl 0 rfl) ?_
        refine lv_iload_n hx hb dX9_hoistedArguments_31 rfl (lv_at hl 1 rfl) ?_
        obtain ⟨v7, ev7, h⟩ := bn_some h
        refine kV (As := [.int x1]) (rest := []) SS hKK (qX9_isConcerned l D cI cM a_z a_z_s a_z_past a_z_keeps a_z_entryKey a_z_entryDefault a_z_held a_z_values a_z_kinds a_z_news z_s z_past z_pasts z_changed z_entries z_keeps z_entryKey z_entryDefault z_counter z_held z_values z_kinds z_news x1 v7 ev7) cw181 hs2 0 9 rfl rfl rfl hl.1 rfl (Nat.le_of_ble_eq_true rfl) dX9_hoistedArguments_32 ⟨Nat.zero_le _, Nat.zero_le _⟩ ?_
        refine lv_if_ne (tgt := 42) hx hb dX9_hoistedArguments_35 (by decide) (fun c8 => ?_) (fun c8 => ?_)
        · have h := ifn h c8
          refine lv_aload_n hx hb dX9_hoistedArguments_42 rfl (lv_at hl 0 rfl) ?_
          refine lv_iload_n hx hb dX9_hoistedArguments_43 rfl (lv_at hl 1 rfl) ?_
          obtain ⟨v9, ev9, h⟩ := bn_some h
          refine kV (As := [.int x1]) (rest := []) SS hKK (qX9_hoistedOf l D cI cM a_z a_z_s a_z_past a_z_keeps a_z_entryKey a_z_entryDefault a_z_held a_z_values a_z_kinds a_z_news z_s z_past z_pasts z_changed z_entries z_keeps z_entryKey z_entryDefault z_counter z_held z_values z_kinds z_news x1 v9 ev9) cw184 hs2 0 9 rfl rfl rfl hl.1 rfl (Nat.le_of_ble_eq_true rfl) dX9_hoistedArguments_44 ⟨Nat.zero_le _, Nat.zero_le _⟩ ?_
          exact kRet hx hb hr hlk (Option.some.inj h) dX9_hoistedArguments_47
        · have h := ifp h c8
          refine lv_iconst (v := 0) hx hb dX9_hoistedArguments_38 (by decide) ?_
          refine lv_goto (tgt := 47) hx hb dX9_hoistedArguments_39 (by decide) ?_
          exact kRet hx hb hr hlk (Option.some.inj h) dX9_hoistedArguments_47
    · have h := ifp h c4
      refine lv_bipush (v := (-2)) hx hb dX9_hoistedArguments_19 (by decide) ?_
      exact kRet hx hb hr hlk (Option.some.inj h) dX9_hoistedArguments_21
  · have h := ifp h c3
    refine lv_iconst (v := (-1)) hx hb dX9_hoistedArguments_8 (by decide) ?_
    exact kRet hx hb hr hlk (Option.some.inj h) dX9_hoistedArguments_9
set_option maxHeartbeats 8000000 in
set_option maxRecDepth 100000 in
theorem qX9_isServed (l : Launch) (D : va_G) (cI cM : ClassId) (a_z a_z_s a_z_past a_z_keeps a_z_entryKey a_z_entryDefault a_z_held a_z_values a_z_kinds a_z_news : Nat) (z_s : Nat → Int32) (z_past : Nat → Int32) (z_pasts : Int32) (z_changed : Int32) (z_entries : Int32) (z_keeps : Nat → Int32) (z_entryKey : Nat → Int32) (z_entryDefault : Nat → Int32) (z_counter : Int32) (z_held : Nat → Int32) (z_values : Nat → Int32) (z_kinds : Nat → Int32) (z_news : Nat → Int32) (x1 : Int32) (x2 : Int32) (r : Int32) (h : fX9_isServed z_s x1 x2 = some r) : PM l yX9_isServed wsX9_isServed rmX9_isServed D cI cM [.ref a_z, .int x1, .int x2] (W_z cI cM a_z a_z_s a_z_past a_z_keeps a_z_entryKey a_z_entryDefault a_z_held a_z_values a_z_kinds a_z_news z_s z_past z_pasts z_changed z_entries z_keeps z_entryKey z_entryDefault z_counter z_held z_values z_kinds z_news) r := by
  refine PM.of (cc := cX9_isServed) (maxL := 3) (ret := (some .boolean)) (by decide) rfl (Nat.le_of_ble_eq_true rfl) ?_
  intro p e s m below meth c ls hx hb hr hml hown hts hlk hP hKK hl
  have hown : s.vm.findClass RX9 = some m.cls := hown
  have hl : lv_has ls 3 [(0, .ref a_z), (1, .int x1), (2, .int x2)] := hl
  generalize hav : ([.ref a_z, .int x1, .int x2] : List Value) = av at hts ⊢
  have SS : CallFix p m c cX9_isServed 3 s av.toArray wsX9_isServed RX9 := ⟨hx, hb, hml, hown, hts⟩
  have hinX9 : ∀ w ∈ u_ws RX9 TX9 13, w ∈ wsX9_isServed := by decide +kernel
  have lk7 := hts (.fieldLink RX9 7 "SignatureChangerModel" "s" "[I") (List.mem_of_getElem? (i := 1) rfl)
  have cw56 : CallW rmX9_isServed s av.toArray RX9 RX9 56 yX9_supers cX9_supers 2 (some .int) wsX9_supers rmX9_supers 0 0 1 := cwV 1 hts gX9_isServed_X9_supers rfl rfl rfl (by decide +kernel) ⟨Nat.le_of_ble_eq_true rfl, Nat.le_of_ble_eq_true rfl⟩
  have cw111 : CallW rmX9_isServed s av.toArray RX9 RX9 111 yX9_at cX9_at 3 (some .int) wsX9_at rmX9_at 0 0 2 := cwV 2 hts gX9_isServed_X9_at rfl rfl rfl (by decide +kernel) ⟨Nat.le_of_ble_eq_true rfl, Nat.le_of_ble_eq_true rfl⟩
  unfold fX9_isServed at h
  refine lv_aload_n hx hb dX9_isServed_0 rfl (lv_at hl 0 rfl) ?_
  refine lv_aload_n hx hb dX9_isServed_1 rfl (lv_at hl 0 rfl) ?_
  refine va_get (D := D) (ci := 9) (v := .ref a_z_s) (C := RX9) (T := TX9) (N := 13) hx hb hts hinX9 hown hKK.1 hP 0 rfl rfl 0 (by decide) lk7 (fun _ h9 => h9) rfl dX9_isServed_2 ?_
  refine lv_aload_n hx hb dX9_isServed_5 rfl (lv_at hl 0 rfl) ?_
  refine lv_iload_n hx hb dX9_isServed_6 rfl (lv_at hl 1 rfl) ?_
  refine lv_iconst (v := 0) hx hb dX9_isServed_7 (by decide) ?_
  obtain ⟨v1, ev1, h⟩ := bn_some h
  have hs2 : va_P D vwCl (W_z cI cM a_z a_z_s a_z_past a_z_keeps a_z_entryKey a_z_entryDefault a_z_held a_z_values a_z_kinds a_z_news z_s z_past z_pasts z_changed z_entries z_keeps z_entryKey z_entryDefault z_counter z_held z_values z_kinds z_news) _ := hP.sub (ws' := W_z cI cM a_z a_z_s a_z_past a_z_keeps a_z_entryKey a_z_entryDefault a_z_held a_z_values a_z_kinds a_z_news z_s z_past z_pasts z_changed z_entries z_keeps z_entryKey z_entryDefault z_counter z_held z_values z_kinds z_news) [0, 1, 2, 3, 4, 5, 6, 7, 8, 9] rfl
  refine kV (As := [.int x1, .int 0]) (rest := [.ref a_z_s, .ref a_z]) SS hKK (qX9_at l D cI cM a_z a_z_s a_z_past a_z_keeps a_z_entryKey a_z_entryDefault a_z_held a_z_values a_z_kinds a_z_news z_s z_past z_pasts z_changed z_entries z_keeps z_entryKey z_entryDefault z_counter z_held z_values z_kinds z_news x1 0 v1 ev1) cw111 hs2 0 9 rfl rfl rfl hl.1 rfl (Nat.le_of_ble_eq_true rfl) dX9_isServed_8 ⟨Nat.zero_le _, Nat.zero_le _⟩ ?_
  obtain ⟨v3, iv3, ev3, h⟩ := rd_some h
  refine kAld hx hb hKK hP 1 rfl iv3 ev3 dX9_isServed_11 ?_
  obtain ⟨v4, ev4, h⟩ := bn_some h
  refine kV (As := [.int v3]) (rest := []) SS hKK (qX9_supers l D cI cM a_z a_z_s a_z_past a_z_keeps a_z_entryKey a_z_entryDefault a_z_held a_z_values a_z_kinds a_z_news z_s z_past z_pasts z_changed z_entries z_keeps z_entryKey z_entryDefault z_counter z_held z_values z_kinds z_news v3 v4 ev4) cw56 hs2 0 9 rfl rfl rfl hl.1 rfl (Nat.le_of_ble_eq_true rfl) dX9_isServed_12 ⟨Nat.zero_le _, Nat.zero_le _⟩ ?_
  refine lv_iload_n hx hb dX9_isServed_15 rfl (lv_at hl 2 rfl) ?_
  refine lv_iand hx hb dX9_isServed_16 ?_
  refine lv_if_eq (tgt := 24) hx hb dX9_isServed_17 (by decide) (fun c5 => ?_) (fun c5 => ?_)
  · have h := ifp h c5
    refine lv_iconst (v := 0) hx hb dX9_isServed_24 (by decide) ?_
    exact kRetZ hx hb hr hlk rfl (Option.some.inj h) dX9_isServed_25
  · have h := ifn h c5
    refine lv_iconst (v := 1) hx hb dX9_isServed_20 (by decide) ?_
    refine lv_goto (tgt := 25) hx hb dX9_isServed_21 (by decide) ?_
    exact kRetZ hx hb hr hlk rfl (Option.some.inj h) dX9_isServed_25
set_option maxHeartbeats 8000000 in
set_option maxRecDepth 100000 in
theorem qX9_areSufficient (l : Launch) (D : va_G) (cI cM : ClassId) (a_z a_z_s a_z_past a_z_keeps a_z_entryKey a_z_entryDefault a_z_held a_z_values a_z_kinds a_z_news : Nat) (z_s : Nat → Int32) (z_past : Nat → Int32) (z_pasts : Int32) (z_changed : Int32) (z_entries : Int32) (z_keeps : Nat → Int32) (z_entryKey : Nat → Int32) (z_entryDefault : Nat → Int32) (z_counter : Int32) (z_held : Nat → Int32) (z_values : Nat → Int32) (z_kinds : Nat → Int32) (z_news : Nat → Int32) (x1 : Int32) (r : Int32) (h : fX9_areSufficient z_s z_changed x1 = some r) : PM l yX9_areSufficient wsX9_areSufficient rmX9_areSufficient D cI cM [.ref a_z, .int x1] (W_z cI cM a_z a_z_s a_z_past a_z_keeps a_z_entryKey a_z_entryDefault a_z_held a_z_values a_z_kinds a_z_news z_s z_past z_pasts z_changed z_entries z_keeps z_entryKey z_entryDefault z_counter z_held z_values z_kinds z_news) r := by
  refine PM.of (cc := cX9_areSufficient) (maxL := 4) (ret := (some .boolean)) (by decide) rfl (Nat.le_of_ble_eq_true rfl) ?_
  intro p e s m below meth c ls hx hb hr hml hown hts hlk hP hKK hl
  have hown : s.vm.findClass RX9 = some m.cls := hown
  have hl : lv_has ls 4 [(0, .ref a_z), (1, .int x1)] := hl
  generalize hav : ([.ref a_z, .int x1] : List Value) = av at hts ⊢
  have SS : CallFix p m c cX9_areSufficient 4 s av.toArray wsX9_areSufficient RX9 := ⟨hx, hb, hml, hown, hts⟩
  have hinX9 : ∀ w ∈ u_ws RX9 TX9 13, w ∈ wsX9_areSufficient := by decide +kernel
  have lk7 := hts (.fieldLink RX9 7 "SignatureChangerModel" "s" "[I") (List.mem_of_getElem? (i := 1) rfl)
  have cw123 : CallW rmX9_areSufficient s av.toArray RX9 RX9 123 yX9_isFrozen cX9_isFrozen 2 (some .boolean) wsX9_isFrozen rmX9_isFrozen 0 0 1 := cwV 1 hts gX9_areSufficient_X9_isFrozen rfl rfl rfl (by decide +kernel) ⟨Nat.le_of_ble_eq_true rfl, Nat.le_of_ble_eq_true rfl⟩
  have cw181 : CallW rmX9_areSufficient s av.toArray RX9 RX9 181 yX9_isConcerned cX9_isConcerned 2 (some .boolean) wsX9_isConcerned rmX9_isConcerned 0 0 1 := cwV 1 hts gX9_areSufficient_X9_isConcerned rfl rfl rfl (by decide +kernel) ⟨Nat.le_of_ble_eq_true rfl, Nat.le_of_ble_eq_true rfl⟩
  have cw187 : CallW rmX9_areSufficient s av.toArray RX9 RX9 187 yX9_isServed cX9_isServed 3 (some .boolean) wsX9_isServed rmX9_isServed 0 0 2 := cwV 2 hts gX9_areSufficient_X9_isServed rfl rfl rfl (by decide +kernel) ⟨Nat.le_of_ble_eq_true rfl, Nat.le_of_ble_eq_true rfl⟩
  have F50 : ∀ (k4 : Int32 → Int32 → Int32 → Option (Int32)) (hk4 : ∀ (u1 : Int32) (u2 : Int32) (u3 : Int32), k4 u1 u2 u3 = some r → ∀ ls : Array Slot, lv_has ls 4 [(0, .ref a_z), (1, .int u1), (2, .int u2), (3, .int u3)] → WP p l e rmX9_areSufficient s m av below meth c r 4 ls []), ∀ (y1 : Int32) (y3 : Int32) (s0 : Int32), jX9_areSufficient_50 z_s z_changed k4 y1 y3 s0 = some r → ∀ ls : Array Slot, lv_has ls 4 [(0, .ref a_z), (1, .int y1), (3, .int y3)] → WP p l e rmX9_areSufficient s m av below meth c r 50 ls [.int s0] := by
    intro k4 hk4
    intro y1 y3 s0 h ls hl
    unfold jX9_areSufficient_50 at h
    refine lv_istore_n (lv' := [(2, .int s0), (0, .ref a_z), (1, .int y1), (3, .int y3)]) hx hb dX9_areSufficient_50 rfl hl (by decide) rfl (fun ls hl => ?_)
    refine lv_iinc (v := y3 + 1) (lv' := [(3, .int (y3 + 1)), (2, .int s0), (0, .ref a_z), (1, .int y1)]) hx hb dX9_areSufficient_51 hl (k := 3) rfl rfl (by decide) rfl (fun ls hl => ?_)
    refine lv_goto (tgt := 4) hx hb dX9_areSufficient_54 (by decide) ?_
    exact hk4 y1 s0 (y3 + 1) h ls (lv_sub (l' := [(0, .ref a_z), (1, .int y1), (2, .int s0), (3, .int (y3 + 1))]) hl [2, 3, 1, 0] rfl)
  have F49 : ∀ (k4 : Int32 → Int32 → Int32 → Option (Int32)) (hk4 : ∀ (u1 : Int32) (u2 : Int32) (u3 : Int32), k4 u1 u2 u3 = some r → ∀ ls : Array Slot, lv_has ls 4 [(0, .ref a_z), (1, .int u1), (2, .int u2), (3, .int u3)] → WP p l e rmX9_areSufficient s m av below meth c r 4 ls []), ∀ (y1 : Int32) (y3 : Int32), jX9_areSufficient_49 z_s z_changed k4 y1 y3 = some r → ∀ ls : Array Slot, lv_has ls 4 [(0, .ref a_z), (1, .int y1), (3, .int y3)] → WP p l e rmX9_areSufficient s m av below meth c r 49 ls [] := by
    intro k4 hk4
    intro y1 y3 h ls hl
    unfold jX9_areSufficient_49 at h
    refine lv_iconst (v := 0) hx hb dX9_areSufficient_49 (by decide) ?_
    exact F50 k4 hk4 y1 y3 0 h ls (lv_sub (l' := [(0, .ref a_z), (1, .int y1), (3, .int y3)]) hl [0, 1, 2] rfl)
  have F45 : ∀ (k4 : Int32 → Int32 → Int32 → Option (Int32)) (hk4 : ∀ (u1 : Int32) (u2 : Int32) (u3 : Int32), k4 u1 u2 u3 = some r → ∀ ls : Array Slot, lv_has ls 4 [(0, .ref a_z), (1, .int u1), (2, .int u2), (3, .int u3)] → WP p l e rmX9_areSufficient s m av below meth c r 4 ls []), ∀ (y1 : Int32) (y3 : Int32), jX9_areSufficient_45 z_s z_changed k4 y1 y3 = some r → ∀ ls : Array Slot, lv_has ls 4 [(0, .ref a_z), (1, .int y1), (3, .int y3)] → WP p l e rmX9_areSufficient s m av below meth c r 45 ls [] := by
    intro k4 hk4
    intro y1 y3 h ls hl
    unfold jX9_areSufficient_45 at h
    refine lv_iconst (v := 1) hx hb dX9_areSufficient_45 (by decide) ?_
    refine lv_goto (tgt := 50) hx hb dX9_areSufficient_46 (by decide) ?_
    exact F50 k4 hk4 y1 y3 1 h ls (lv_sub (l' := [(0, .ref a_z), (1, .int y1), (3, .int y3)]) hl [0, 1, 2] rfl)
  have F4 : ∀ (n : Nat) (y1 : Int32) (y2 : Int32) (y3 : Int32), lX9_areSufficient_4 z_s z_changed n y1 y2 y3 = some r → ∀ ls : Array Slot, lv_has ls 4 [(0, .ref a_z), (1, .int y1), (2, .int y2), (3, .int y3)] → WP p l e rmX9_areSufficient s m av below meth c r 4 ls [] := by
    intro n
    induction n with
    | zero => intro y1 y2 y3 h; exact no_some h
    | succ n ih =>
      intro y1 y2 y3 h ls hl
      rw [lX9_areSufficient_4_s] at h
      refine lv_iload_n hx hb dX9_areSufficient_4 rfl (lv_at hl 3 rfl) ?_
      refine lv_aload_n hx hb dX9_areSufficient_5 rfl (lv_at hl 0 rfl) ?_
      refine va_get (D := D) (ci := 9) (v := .ref a_z_s) (C := RX9) (T := TX9) (N := 13) hx hb hts hinX9 hown hKK.1 hP 0 rfl rfl 0 (by decide) lk7 (fun _ h9 => h9) rfl dX9_areSufficient_6 ?_
      refine lv_sipush (v := 234) hx hb dX9_areSufficient_9 (by decide) ?_
      obtain ⟨v1, iv1, ev1, h⟩ := rd_some h
      refine kAld hx hb hKK hP 1 rfl iv1 ev1 dX9_areSufficient_12 ?_
      refine lv_icmp_ge (tgt := 57) hx hb dX9_areSufficient_13 (by decide) (fun c2 => ?_) (fun c2 => ?_)
      · have h := ifp h c2
        refine lv_iload_n hx hb dX9_areSufficient_57 rfl (lv_at hl 2 rfl) ?_
        exact kRetZ hx hb hr hlk (rb_some h).2 (rb_some h).1 dX9_areSufficient_58
      · have h := ifn h c2
        refine lv_iload_n hx hb dX9_areSufficient_16 rfl (lv_at hl 2 rfl) ?_
        refine lv_if_eq (tgt := 49) hx hb dX9_areSufficient_17 (by decide) (fun c3 => ?_) (fun c3 => ?_)
        · have h := ifp h c3
          exact F49 (fun u1 u2 u3 => lX9_areSufficient_4 z_s z_changed n u1 u2 u3) (fun u1 u2 u3 h ls hl => ih u1 u2 u3 h ls hl) y1 y3 h ls (lv_sub (l' := [(0, .ref a_z), (1, .int y1), (3, .int y3)]) hl [0, 1, 3] rfl)
        · have h := ifn h c3
          refine lv_aload_n hx hb dX9_areSufficient_20 rfl (lv_at hl 0 rfl) ?_
          refine lv_iload_n hx hb dX9_areSufficient_21 rfl (lv_at hl 3 rfl) ?_
          obtain ⟨v4, ev4, h⟩ := bn_some h
          have hs5 : va_P D vwCl (W_z cI cM a_z a_z_s a_z_past a_z_keeps a_z_entryKey a_z_entryDefault a_z_held a_z_values a_z_kinds a_z_news z_s z_past z_pasts z_changed z_entries z_keeps z_entryKey z_entryDefault z_counter z_held z_values z_kinds z_news) _ := hP.sub (ws' := W_z cI cM a_z a_z_s a_z_past a_z_keeps a_z_entryKey a_z_entryDefault a_z_held a_z_values a_z_kinds a_z_news z_s z_past z_pasts z_changed z_entries z_keeps z_entryKey z_entryDefault z_counter z_held z_values z_kinds z_news) [0, 1, 2, 3, 4, 5, 6, 7, 8, 9] rfl
          refine kV (As := [.int y3]) (rest := []) SS hKK (qX9_isFrozen l D cI cM a_z a_z_s a_z_past a_z_keeps a_z_entryKey a_z_entryDefault a_z_held a_z_values a_z_kinds a_z_news z_s z_past z_pasts z_changed z_entries z_keeps z_entryKey z_entryDefault z_counter z_held z_values z_kinds z_news y3 v4 ev4) cw123 hs5 0 9 rfl rfl rfl hl.1 rfl (Nat.le_of_ble_eq_true rfl) dX9_areSufficient_22 ⟨Nat.zero_le _, Nat.zero_le _⟩ ?_
          refine lv_if_eq (tgt := 45) hx hb dX9_areSufficient_25 (by decide) (fun c6 => ?_) (fun c6 => ?_)
          · have h := ifp h c6
            exact F45 (fun u1 u2 u3 => lX9_areSufficient_4 z_s z_changed n u1 u2 u3) (fun u1 u2 u3 h ls hl => ih u1 u2 u3 h ls hl) y1 y3 h ls (lv_sub (l' := [(0, .ref a_z), (1, .int y1), (3, .int y3)]) hl [0, 1, 3] rfl)
          · have h := ifn h c6
            refine lv_aload_n hx hb dX9_areSufficient_28 rfl (lv_at hl 0 rfl) ?_
            refine lv_iload_n hx hb dX9_areSufficient_29 rfl (lv_at hl 3 rfl) ?_
            obtain ⟨v7, ev7, h⟩ := bn_some h
            refine kV (As := [.int y3]) (rest := []) SS hKK (qX9_isConcerned l D cI cM a_z a_z_s a_z_past a_z_keeps a_z_entryKey a_z_entryDefault a_z_held a_z_values a_z_kinds a_z_news z_s z_past z_pasts z_changed z_entries z_keeps z_entryKey z_entryDefault z_counter z_held z_values z_kinds z_news y3 v7 ev7) cw181 hs5 0 9 rfl rfl rfl hl.1 rfl (Nat.le_of_ble_eq_true rfl) dX9_areSufficient_30 ⟨Nat.zero_le _, Nat.zero_le _⟩ ?_
            refine lv_if_eq (tgt := 45) hx hb dX9_areSufficient_33 (by decide) (fun c8 => ?_) (fun c8 => ?_)
            · have h := ifp h c8
              exact F45 (fun u1 u2 u3 => lX9_areSufficient_4 z_s z_changed n u1 u2 u3) (fun u1 u2 u3 h ls hl => ih u1 u2 u3 h ls hl) y1 y3 h ls (lv_sub (l' := [(0, .ref a_z), (1, .int y1), (3, .int y3)]) hl [0, 1, 3] rfl)
            · have h := ifn h c8
              refine lv_aload_n hx hb dX9_areSufficient_36 rfl (lv_at hl 0 rfl) ?_
              refine lv_iload_n hx hb dX9_areSufficient_37 rfl (lv_at hl 3 rfl) ?_
              refine lv_iload_n hx hb dX9_areSufficient_38 rfl (lv_at hl 1 rfl) ?_
              obtain ⟨v9, ev9, h⟩ := bn_some h
              refine kV (As := [.int y3, .int y1]) (rest := []) SS hKK (qX9_isServed l D cI cM a_z a_z_s a_z_past a_z_keeps a_z_entryKey a_z_entryDefault a_z_held a_z_values a_z_kinds a_z_news z_s z_past z_pasts z_changed z_entries z_keeps z_entryKey z_entryDefault z_counter z_held z_values z_kinds z_news y3 y1 v9 ev9) cw187 hs5 0 9 rfl rfl rfl hl.1 rfl (Nat.le_of_ble_eq_true rfl) dX9_areSufficient_39 ⟨Nat.zero_le _, Nat.zero_le _⟩ ?_
              refine lv_if_eq (tgt := 49) hx hb dX9_areSufficient_42 (by decide) (fun c10 => ?_) (fun c10 => ?_)
              · have h := ifp h c10
                exact F49 (fun u1 u2 u3 => lX9_areSufficient_4 z_s z_changed n u1 u2 u3) (fun u1 u2 u3 h ls hl => ih u1 u2 u3 h ls hl) y1 y3 h ls (lv_sub (l' := [(0, .ref a_z), (1, .int y1), (3, .int y3)]) hl [0, 1, 3] rfl)
              · have h := ifn h c10
                exact F45 (fun u1 u2 u3 => lX9_areSufficient_4 z_s z_changed n u1 u2 u3) (fun u1 u2 u3 h ls hl => ih u1 u2 u3 h ls hl) y1 y3 h ls (lv_sub (l' := [(0, .ref a_z), (1, .int y1), (3, .int y3)]) hl [0, 1, 3] rfl)
  unfold fX9_areSufficient at h
  refine lv_iconst (v := 1) hx hb dX9_areSufficient_0 (by decide) ?_
  refine lv_istore_n (lv' := [(2, .int 1), (0, .ref a_z), (1, .int x1)]) hx hb dX9_areSufficient_1 rfl hl (by decide) rfl (fun ls hl => ?_)
  refine lv_iconst (v := 0) hx hb dX9_areSufficient_2 (by decide) ?_
  refine lv_istore_n (lv' := [(3, .int 0), (2, .int 1), (0, .ref a_z), (1, .int x1)]) hx hb dX9_areSufficient_3 rfl hl (by decide) rfl (fun ls hl => ?_)
  exact F4 5000 x1 1 0 h ls (lv_sub (l' := [(0, .ref a_z), (1, .int x1), (2, .int 1), (3, .int 0)]) hl [2, 3, 1, 0] rfl)
set_option maxHeartbeats 8000000 in
set_option maxRecDepth 100000 in
theorem qX9_declaringTypes (l : Launch) (D : va_G) (cI cM : ClassId) (a_z a_z_s a_z_past a_z_keeps a_z_entryKey a_z_entryDefault a_z_held a_z_values a_z_kinds a_z_news : Nat) (z_s : Nat → Int32) (z_past : Nat → Int32) (z_pasts : Int32) (z_changed : Int32) (z_entries : Int32) (z_keeps : Nat → Int32) (z_entryKey : Nat → Int32) (z_entryDefault : Nat → Int32) (z_counter : Int32) (z_held : Nat → Int32) (z_values : Nat → Int32) (z_kinds : Nat → Int32) (z_news : Nat → Int32) (r : Int32) (h : fX9_declaringTypes z_s z_changed = some r) : PM l yX9_declaringTypes wsX9_declaringTypes rmX9_declaringTypes D cI cM [.ref a_z] (W_z cI cM a_z a_z_s a_z_past a_z_keeps a_z_entryKey a_z_entryDefault a_z_held a_z_values a_z_kinds a_z_news z_s z_past z_pasts z_changed z_entries z_keeps z_entryKey z_entryDefault z_counter z_held z_values z_kinds z_news) r := by
  refine PM.of (cc := cX9_declaringTypes) (maxL := 4) (ret := (some .int)) (by decide) rfl (Nat.le_of_ble_eq_true rfl) ?_
  intro p e s m below meth c ls hx hb hr hml hown hts hlk hP hKK hl
  have hown : s.vm.findClass RX9 = some m.cls := hown
  have hl : lv_has ls 4 [(0, .ref a_z)] := hl
  generalize hav : ([.ref a_z] : List Value) = av at hts ⊢
  have SS : CallFix p m c cX9_declaringTypes 4 s av.toArray wsX9_declaringTypes RX9 := ⟨hx, hb, hml, hown, hts⟩
  have hinX9 : ∀ w ∈ u_ws RX9 TX9 13, w ∈ wsX9_declaringTypes := by decide +kernel
  have lk7 := hts (.fieldLink RX9 7 "SignatureChangerModel" "s" "[I") (List.mem_of_getElem? (i := 2) rfl)
  have lk16 := hts (.fieldLink RX9 16 "SignatureChangerModel" "changed" "I") (List.mem_of_getElem? (i := 1) rfl)
  have cw48 : CallB rmX9_declaringTypes s av.toArray RX9 48 yX9_has cX9_has 2 (some .boolean) wsX9_has rmX9_has 0 0 2 ∧ (Cond.static yX9_has).before av.toArray s = true := va_cwS 2 hts gX9_declaringTypes_X9_has rfl rfl rfl (by decide +kernel) ⟨Nat.le_of_ble_eq_true rfl, Nat.le_of_ble_eq_true rfl⟩
  have cw63 : CallW rmX9_declaringTypes s av.toArray RX9 RX9 63 yX9_of cX9_of 3 (some .int) wsX9_of rmX9_of 0 0 2 := cwV 2 hts gX9_declaringTypes_X9_of rfl rfl rfl (by decide +kernel) ⟨Nat.le_of_ble_eq_true rfl, Nat.le_of_ble_eq_true rfl⟩
  have cw108 : CallW rmX9_declaringTypes s av.toArray RX9 RX9 108 yX9_familyOf cX9_familyOf 6 (some .int) wsX9_familyOf rmX9_familyOf 0 0 1 := cwV 1 hts gX9_declaringTypes_X9_familyOf rfl rfl rfl (by decide +kernel) ⟨Nat.le_of_ble_eq_true rfl, Nat.le_of_ble_eq_true rfl⟩
  have F45 : ∀ (k13 : Int32 → Int32 → Int32 → Option (Int32)) (hk13 : ∀ (u1 : Int32) (u2 : Int32) (u3 : Int32), k13 u1 u2 u3 = some r → ∀ ls : Array Slot, lv_has ls 4 [(0, .ref a_z), (1, .int u1), (2, .int u2), (3, .int u3)] → WP p l e rmX9_declaringTypes s m av below meth c r 13 ls []), ∀ (y1 : Int32) (y3 : Int32) (s0 : Int32) (s1 : Int32), jX9_declaringTypes_45 z_s z_changed k13 y1 y3 s0 s1 = some r → ∀ ls : Array Slot, lv_has ls 4 [(0, .ref a_z), (1, .int y1), (3, .int y3)] → WP p l e rmX9_declaringTypes s m av below meth c r 45 ls [.int s1, .int s0] := by
    intro k13 hk13
    intro y1 y3 s0 s1 h ls hl
    unfold jX9_declaringTypes_45 at h
    refine lv_ior hx hb dX9_declaringTypes_45 ?_
    refine lv_istore_n (lv' := [(2, .int (s0 ||| s1)), (0, .ref a_z), (1, .int y1), (3, .int y3)]) hx hb dX9_declaringTypes_46 rfl hl (by decide) rfl (fun ls hl => ?_)
    refine lv_iinc (v := y3 + 1) (lv' := [(3, .int (y3 + 1)), (2, .int (s0 ||| s1)), (0, .ref a_z), (1, .int y1)]) hx hb dX9_declaringTypes_47 hl (k := 3) rfl rfl (by decide) rfl (fun ls hl => ?_)
    refine lv_goto (tgt := 13) hx hb dX9_declaringTypes_50 (by decide) ?_
    exact hk13 y1 (s0 ||| s1) (y3 + 1) h ls (lv_sub (l' := [(0, .ref a_z), (1, .int y1), (2, .int (s0 ||| s1)), (3, .int (y3 + 1))]) hl [2, 3, 1, 0] rfl)
  have F13 : ∀ (n : Nat) (y1 : Int32) (y2 : Int32) (y3 : Int32), lX9_declaringTypes_13 z_s z_changed n y1 y2 y3 = some r → ∀ ls : Array Slot, lv_has ls 4 [(0, .ref a_z), (1, .int y1), (2, .int y2), (3, .int y3)] → WP p l e rmX9_declaringTypes s m av below meth c r 13 ls [] := by
    intro n
    induction n with
    | zero => intro y1 y2 y3 h; exact no_some h
    | succ n ih =>
      intro y1 y2 y3 h ls hl
      rw [lX9_declaringTypes_13_s] at h
      refine lv_iload_n hx hb dX9_declaringTypes_13 rfl (lv_at hl 3 rfl) ?_
      refine lv_aload_n hx hb dX9_declaringTypes_14 rfl (lv_at hl 0 rfl) ?_
      refine va_get (D := D) (ci := 9) (v := .ref a_z_s) (C := RX9) (T := TX9) (N := 13) hx hb hts hinX9 hown hKK.1 hP 0 rfl rfl 0 (by decide) lk7 (fun _ h9 => h9) rfl dX9_declaringTypes_15 ?_
      refine lv_bipush (v := 25) hx hb dX9_declaringTypes_18 (by decide) ?_
      obtain ⟨v1, iv1, ev1, h⟩ := rd_some h
      refine kAld hx hb hKK hP 1 rfl iv1 ev1 dX9_declaringTypes_20 ?_
      refine lv_icmp_ge (tgt := 53) hx hb dX9_declaringTypes_21 (by decide) (fun c2 => ?_) (fun c2 => ?_)
      · have h := ifp h c2
        refine lv_iload_n hx hb dX9_declaringTypes_53 rfl (lv_at hl 2 rfl) ?_
        exact kRet hx hb hr hlk (Option.some.inj h) dX9_declaringTypes_54
      · have h := ifn h c2
        refine lv_iload_n hx hb dX9_declaringTypes_24 rfl (lv_at hl 2 rfl) ?_
        refine lv_iload_n hx hb dX9_declaringTypes_25 rfl (lv_at hl 1 rfl) ?_
        refine lv_iload_n hx hb dX9_declaringTypes_26 rfl (lv_at hl 3 rfl) ?_
        obtain ⟨v3, ev3, h⟩ := bn_some h
        refine kS (As := [.int y1, .int y3]) (rest := [.int y2]) SS hKK (qX9_has l D cI cM y1 y3 v3 ev3) cw48 va_P_nil rfl hl.1 rfl (Nat.le_of_ble_eq_true rfl) dX9_declaringTypes_27 ⟨Nat.zero_le _, Nat.zero_le _⟩ ?_
        refine lv_if_eq (tgt := 44) hx hb dX9_declaringTypes_30 (by decide) (fun c4 => ?_) (fun c4 => ?_)
        · have h := ifp h c4
          refine lv_iconst (v := 0) hx hb dX9_declaringTypes_44 (by decide) ?_
          exact F45 (fun u1 u2 u3 => lX9_declaringTypes_13 z_s z_changed n u1 u2 u3) (fun u1 u2 u3 h ls hl => ih u1 u2 u3 h ls hl) y1 y3 y2 0 h ls (lv_sub (l' := [(0, .ref a_z), (1, .int y1), (3, .int y3)]) hl [0, 1, 3] rfl)
        · have h := ifn h c4
          refine lv_iconst (v := 1) hx hb dX9_declaringTypes_33 (by decide) ?_
          refine lv_aload_n hx hb dX9_declaringTypes_34 rfl (lv_at hl 0 rfl) ?_
          refine lv_iload_n hx hb dX9_declaringTypes_35 rfl (lv_at hl 3 rfl) ?_
          refine lv_iconst (v := 0) hx hb dX9_declaringTypes_36 (by decide) ?_
          obtain ⟨v5, ev5, h⟩ := bn_some h
          have hs6 : va_P D vwCl (W_z cI cM a_z a_z_s a_z_past a_z_keeps a_z_entryKey a_z_entryDefault a_z_held a_z_values a_z_kinds a_z_news z_s z_past z_pasts z_changed z_entries z_keeps z_entryKey z_entryDefault z_counter z_held z_values z_kinds z_news) _ := hP.sub (ws' := W_z cI cM a_z a_z_s a_z_past a_z_keeps a_z_entryKey a_z_entryDefault a_z_held a_z_values a_z_kinds a_z_news z_s z_past z_pasts z_changed z_entries z_keeps z_entryKey z_entryDefault z_counter z_held z_values z_kinds z_news) [0, 1, 2, 3, 4, 5, 6, 7, 8, 9] rfl
          refine kV (As := [.int y3, .int 0]) (rest := [.int 1, .int y2]) SS hKK (qX9_of l D cI cM a_z a_z_s a_z_past a_z_keeps a_z_entryKey a_z_entryDefault a_z_held a_z_values a_z_kinds a_z_news z_s z_past z_pasts z_changed z_entries z_keeps z_entryKey z_entryDefault z_counter z_held z_values z_kinds z_news y3 0 v5 ev5) cw63 hs6 0 9 rfl rfl rfl hl.1 rfl (Nat.le_of_ble_eq_true rfl) dX9_declaringTypes_37 ⟨Nat.zero_le _, Nat.zero_le _⟩ ?_
          refine lv_ishl hx hb dX9_declaringTypes_40 ?_
          refine lv_goto (tgt := 45) hx hb dX9_declaringTypes_41 (by decide) ?_
          exact F45 (fun u1 u2 u3 => lX9_declaringTypes_13 z_s z_changed n u1 u2 u3) (fun u1 u2 u3 h ls hl => ih u1 u2 u3 h ls hl) y1 y3 y2 (1 <<< (v5 &&& 31)) h ls (lv_sub (l' := [(0, .ref a_z), (1, .int y1), (3, .int y3)]) hl [0, 1, 3] rfl)
  unfold fX9_declaringTypes at h
  refine lv_aload_n hx hb dX9_declaringTypes_0 rfl (lv_at hl 0 rfl) ?_
  refine lv_aload_n hx hb dX9_declaringTypes_1 rfl (lv_at hl 0 rfl) ?_
  refine va_get (D := D) (ci := 9) (v := .int z_changed) (C := RX9) (T := TX9) (N := 13) hx hb hts hinX9 hown hKK.1 hP 0 rfl rfl 3 (by decide) lk16 (fun _ h9 => h9) rfl dX9_declaringTypes_2 ?_
  obtain ⟨v1, ev1, h⟩ := bn_some h
  have hs2 : va_P D vwCl (W_z cI cM a_z a_z_s a_z_past a_z_keeps a_z_entryKey a_z_entryDefault a_z_held a_z_values a_z_kinds a_z_news z_s z_past z_pasts z_changed z_entries z_keeps z_entryKey z_entryDefault z_counter z_held z_values z_kinds z_news) _ := hP.sub (ws' := W_z cI cM a_z a_z_s a_z_past a_z_keeps a_z_entryKey a_z_entryDefault a_z_held a_z_values a_z_kinds a_z_news z_s z_past z_pasts z_changed z_entries z_keeps z_entryKey z_entryDefault z_counter z_held z_values z_kinds z_news) [0, 1, 2, 3, 4, 5, 6, 7, 8, 9] rfl
  refine kV (As := [.int z_changed]) (rest := []) SS hKK (qX9_familyOf l D cI cM a_z a_z_s a_z_past a_z_keeps a_z_entryKey a_z_entryDefault a_z_held a_z_values a_z_kinds a_z_news z_s z_past z_pasts z_changed z_entries z_keeps z_entryKey z_entryDefault z_counter z_held z_values z_kinds z_news z_changed v1 ev1) cw108 hs2 0 9 rfl rfl rfl hl.1 rfl (Nat.le_of_ble_eq_true rfl) dX9_declaringTypes_5 ⟨Nat.zero_le _, Nat.zero_le _⟩ ?_
  refine lv_istore_n (lv' := [(1, .int v1), (0, .ref a_z)]) hx hb dX9_declaringTypes_8 rfl hl (by decide) rfl (fun ls hl => ?_)
  refine lv_iconst (v := 0) hx hb dX9_declaringTypes_9 (by decide) ?_
  refine lv_istore_n (lv' := [(2, .int 0), (1, .int v1), (0, .ref a_z)]) hx hb dX9_declaringTypes_10 rfl hl (by decide) rfl (fun ls hl => ?_)
  refine lv_iconst (v := 0) hx hb dX9_declaringTypes_11 (by decide) ?_
  refine lv_istore_n (lv' := [(3, .int 0), (2, .int 0), (1, .int v1), (0, .ref a_z)]) hx hb dX9_declaringTypes_12 rfl hl (by decide) rfl (fun ls hl => ?_)
  exact F13 5000 v1 0 0 h ls (lv_sub (l' := [(0, .ref a_z), (1, .int v1), (2, .int 0), (3, .int 0)]) hl [3, 2, 1, 0] rfl)
set_option maxHeartbeats 8000000 in
set_option maxRecDepth 100000 in
theorem qX9_bridgeTypes (l : Launch) (D : va_G) (cI cM : ClassId) (a_z a_z_s a_z_past a_z_keeps a_z_entryKey a_z_entryDefault a_z_held a_z_values a_z_kinds a_z_news : Nat) (z_s : Nat → Int32) (z_past : Nat → Int32) (z_pasts : Int32) (z_changed : Int32) (z_entries : Int32) (z_keeps : Nat → Int32) (z_entryKey : Nat → Int32) (z_entryDefault : Nat → Int32) (z_counter : Int32) (z_held : Nat → Int32) (z_values : Nat → Int32) (z_kinds : Nat → Int32) (z_news : Nat → Int32) (r : Int32) (h : fX9_bridgeTypes z_s z_changed = some r) : PM l yX9_bridgeTypes wsX9_bridgeTypes rmX9_bridgeTypes D cI cM [.ref a_z] (W_z cI cM a_z a_z_s a_z_past a_z_keeps a_z_entryKey a_z_entryDefault a_z_held a_z_values a_z_kinds a_z_news z_s z_past z_pasts z_changed z_entries z_keeps z_entryKey z_entryDefault z_counter z_held z_values z_kinds z_news) r := by
  refine PM.of (cc := cX9_bridgeTypes) (maxL := 5) (ret := (some .int)) (by decide) rfl (Nat.le_of_ble_eq_true rfl) ?_
  intro p e s m below meth c ls hx hb hr hml hown hts hlk hP hKK hl
  have hown : s.vm.findClass RX9 = some m.cls := hown
  have hl : lv_has ls 5 [(0, .ref a_z)] := hl
  generalize hav : ([.ref a_z] : List Value) = av at hts ⊢
  have SS : CallFix p m c cX9_bridgeTypes 5 s av.toArray wsX9_bridgeTypes RX9 := ⟨hx, hb, hml, hown, hts⟩
  have hinX9 : ∀ w ∈ u_ws RX9 TX9 13, w ∈ wsX9_bridgeTypes := by decide +kernel
  have lk16 := hts (.fieldLink RX9 16 "SignatureChangerModel" "changed" "I") (List.mem_of_getElem? (i := 1) rfl)
  have cw154 : CallB rmX9_bridgeTypes s av.toArray RX9 154 yX9_ones cX9_ones 3 (some .int) wsX9_ones rmX9_ones 0 0 1 ∧ (Cond.static yX9_ones).before av.toArray s = true := va_cwS 1 hts gX9_bridgeTypes_X9_ones rfl rfl rfl (by decide +kernel) ⟨Nat.le_of_ble_eq_true rfl, Nat.le_of_ble_eq_true rfl⟩
  have cw190 : CallW rmX9_bridgeTypes s av.toArray RX9 RX9 190 yX9_declaringTypes cX9_declaringTypes 4 (some .int) wsX9_declaringTypes rmX9_declaringTypes 0 0 0 := cwV 0 hts gX9_bridgeTypes_X9_declaringTypes rfl rfl rfl (by decide +kernel) ⟨Nat.le_of_ble_eq_true rfl, Nat.le_of_ble_eq_true rfl⟩
  have cw193 : CallW rmX9_bridgeTypes s av.toArray RX9 RX9 193 yX9_areSufficient cX9_areSufficient 4 (some .boolean) wsX9_areSufficient rmX9_areSufficient 0 0 1 := cwV 1 hts gX9_bridgeTypes_X9_areSufficient rfl rfl rfl (by decide +kernel) ⟨Nat.le_of_ble_eq_true rfl, Nat.le_of_ble_eq_true rfl⟩
  have F77 : ∀ (k22 : Int32 → Int32 → Int32 → Option (Int32)) (hk22 : ∀ (u1 : Int32) (u2 : Int32) (u3 : Int32), k22 u1 u2 u3 = some r → ∀ ls : Array Slot, lv_has ls 5 [(0, .ref a_z), (1, .int u1), (2, .int u2), (3, .int u3)] → WP p l e rmX9_bridgeTypes s m av below meth c r 22 ls []), ∀ (y1 : Int32) (y3 : Int32) (s0 : Int32), jX9_bridgeTypes_77 z_s z_changed k22 y1 y3 s0 = some r → ∀ ls : Array Slot, lv_has ls 5 [(0, .ref a_z), (1, .int y1), (3, .int y3)] → WP p l e rmX9_bridgeTypes s m av below meth c r 77 ls [.int s0] := by
    intro k22 hk22
    intro y1 y3 s0 h ls hl
    unfold jX9_bridgeTypes_77 at h
    refine lv_istore_n (lv' := [(2, .int s0), (0, .ref a_z), (1, .int y1), (3, .int y3)]) hx hb dX9_bridgeTypes_77 rfl hl (by decide) rfl (fun ls hl => ?_)
    refine lv_iinc (v := y3 + 1) (lv' := [(3, .int (y3 + 1)), (2, .int s0), (0, .ref a_z), (1, .int y1)]) hx hb dX9_bridgeTypes_78 hl (k := 3) rfl rfl (by decide) rfl (fun ls hl => ?_)
    refine lv_goto (tgt := 22) hx hb dX9_bridgeTypes_81 (by decide) ?_
    exact hk22 y1 s0 (y3 + 1) h ls (lv_sub (l' := [(0, .ref a_z), (1, .int y1), (2, .int s0), (3, .int (y3 + 1))]) hl [2, 3, 1, 0] rfl)
  have F76 : ∀ (k22 : Int32 → Int32 → Int32 → Option (Int32)) (hk22 : ∀ (u1 : Int32) (u2 : Int32) (u3 : Int32), k22 u1 u2 u3 = some r → ∀ ls : Array Slot, lv_has ls 5 [(0, .ref a_z), (1, .int u1), (2, .int u2), (3, .int u3)] → WP p l e rmX9_bridgeTypes s m av below meth c r 22 ls []), ∀ (y1 : Int32) (y2 : Int32) (y3 : Int32), jX9_bridgeTypes_76 z_s z_changed k22 y1 y2 y3 = some r → ∀ ls : Array Slot, lv_has ls 5 [(0, .ref a_z), (1, .int y1), (2, .int y2), (3, .int y3)] → WP p l e rmX9_bridgeTypes s m av below meth c r 76 ls [] := by
    intro k22 hk22
    intro y1 y2 y3 h ls hl
    unfold jX9_bridgeTypes_76 at h
    refine lv_iload_n hx hb dX9_bridgeTypes_76 rfl (lv_at hl 2 rfl) ?_
    exact F77 k22 hk22 y1 y3 y2 h ls (lv_sub (l' := [(0, .ref a_z), (1, .int y1), (3, .int y3)]) hl [0, 1, 3] rfl)
  have F57 : ∀ (k22 : Int32 → Int32 → Int32 → Option (Int32)) (hk22 : ∀ (u1 : Int32) (u2 : Int32) (u3 : Int32), k22 u1 u2 u3 = some r → ∀ ls : Array Slot, lv_has ls 5 [(0, .ref a_z), (1, .int u1), (2, .int u2), (3, .int u3)] → WP p l e rmX9_bridgeTypes s m av below meth c r 22 ls []), ∀ (y1 : Int32) (y2 : Int32) (y3 : Int32) (s0 : Int32), jX9_bridgeTypes_57 z_s z_changed k22 y1 y2 y3 s0 = some r → ∀ ls : Array Slot, lv_has ls 5 [(0, .ref a_z), (1, .int y1), (2, .int y2), (3, .int y3)] → WP p l e rmX9_bridgeTypes s m av below meth c r 57 ls [.int s0] := by
    intro k22 hk22
    intro y1 y2 y3 s0 h ls hl
    unfold jX9_bridgeTypes_57 at h
    refine lv_istore (lv' := [(4, .int s0), (0, .ref a_z), (1, .int y1), (2, .int y2), (3, .int y3)]) hx hb dX9_bridgeTypes_57 hl (by decide) rfl (fun ls hl => ?_)
    refine lv_iload hx hb dX9_bridgeTypes_59 (lv_at hl 0 rfl) ?_
    refine lv_if_eq (tgt := 76) hx hb dX9_bridgeTypes_61 (by decide) (fun c1 => ?_) (fun c1 => ?_)
    · have h := ifp h c1
      exact F76 k22 hk22 y1 y2 y3 h ls (lv_sub (l' := [(0, .ref a_z), (1, .int y1), (2, .int y2), (3, .int y3)]) hl [1, 2, 3, 4] rfl)
    · have h := ifn h c1
      refine lv_aload_n hx hb dX9_bridgeTypes_64 rfl (lv_at hl 1 rfl) ?_
      refine lv_iload_n hx hb dX9_bridgeTypes_65 rfl (lv_at hl 4 rfl) ?_
      obtain ⟨v2, ev2, h⟩ := bn_some h
      have hs3 : va_P D vwCl (W_z cI cM a_z a_z_s a_z_past a_z_keeps a_z_entryKey a_z_entryDefault a_z_held a_z_values a_z_kinds a_z_news z_s z_past z_pasts z_changed z_entries z_keeps z_entryKey z_entryDefault z_counter z_held z_values z_kinds z_news) _ := hP.sub (ws' := W_z cI cM a_z a_z_s a_z_past a_z_keeps a_z_entryKey a_z_entryDefault a_z_held a_z_values a_z_kinds a_z_news z_s z_past z_pasts z_changed z_entries z_keeps z_entryKey z_entryDefault z_counter z_held z_values z_kinds z_news) [0, 1, 2, 3, 4, 5, 6, 7, 8, 9] rfl
      refine kV (As := [.int y3]) (rest := []) SS hKK (qX9_areSufficient l D cI cM a_z a_z_s a_z_past a_z_keeps a_z_entryKey a_z_entryDefault a_z_held a_z_values a_z_kinds a_z_news z_s z_past z_pasts z_changed z_entries z_keeps z_entryKey z_entryDefault z_counter z_held z_values z_kinds z_news y3 v2 ev2) cw193 hs3 0 9 rfl rfl rfl hl.1 rfl (Nat.le_of_ble_eq_true rfl) dX9_bridgeTypes_66 ⟨Nat.zero_le _, Nat.zero_le _⟩ ?_
      refine lv_if_eq (tgt := 76) hx hb dX9_bridgeTypes_69 (by decide) (fun c4 => ?_) (fun c4 => ?_)
      · have h := ifp h c4
        exact F76 k22 hk22 y1 y2 y3 h ls (lv_sub (l' := [(0, .ref a_z), (1, .int y1), (2, .int y2), (3, .int y3)]) hl [1, 2, 3, 4] rfl)
      · have h := ifn h c4
        refine lv_iload_n hx hb dX9_bridgeTypes_72 rfl (lv_at hl 4 rfl) ?_
        refine lv_goto (tgt := 77) hx hb dX9_bridgeTypes_73 (by decide) ?_
        exact F77 k22 hk22 y1 y3 y3 h ls (lv_sub (l' := [(0, .ref a_z), (1, .int y1), (3, .int y3)]) hl [1, 2, 4] rfl)
  have F56 : ∀ (k22 : Int32 → Int32 → Int32 → Option (Int32)) (hk22 : ∀ (u1 : Int32) (u2 : Int32) (u3 : Int32), k22 u1 u2 u3 = some r → ∀ ls : Array Slot, lv_has ls 5 [(0, .ref a_z), (1, .int u1), (2, .int u2), (3, .int u3)] → WP p l e rmX9_bridgeTypes s m av below meth c r 22 ls []), ∀ (y1 : Int32) (y2 : Int32) (y3 : Int32), jX9_bridgeTypes_56 z_s z_changed k22 y1 y2 y3 = some r → ∀ ls : Array Slot, lv_has ls 5 [(0, .ref a_z), (1, .int y1), (2, .int y2), (3, .int y3)] → WP p l e rmX9_bridgeTypes s m av below meth c r 56 ls [] := by
    intro k22 hk22
    intro y1 y2 y3 h ls hl
    unfold jX9_bridgeTypes_56 at h
    refine lv_iconst (v := 0) hx hb dX9_bridgeTypes_56 (by decide) ?_
    exact F57 k22 hk22 y1 y2 y3 0 h ls (lv_sub (l' := [(0, .ref a_z), (1, .int y1), (2, .int y2), (3, .int y3)]) hl [0, 1, 2, 3] rfl)
  have F52 : ∀ (k22 : Int32 → Int32 → Int32 → Option (Int32)) (hk22 : ∀ (u1 : Int32) (u2 : Int32) (u3 : Int32), k22 u1 u2 u3 = some r → ∀ ls : Array Slot, lv_has ls 5 [(0, .ref a_z), (1, .int u1), (2, .int u2), (3, .int u3)] → WP p l e rmX9_bridgeTypes s m av below meth c r 22 ls []), ∀ (y1 : Int32) (y2 : Int32) (y3 : Int32), jX9_bridgeTypes_52 z_s z_changed k22 y1 y2 y3 = some r → ∀ ls : Array Slot, lv_has ls 5 [(0, .ref a_z), (1, .int y1), (2, .int y2), (3, .int y3)] → WP p l e rmX9_bridgeTypes s m av below meth c r 52 ls [] := by
    intro k22 hk22
    intro y1 y2 y3 h ls hl
    unfold jX9_bridgeTypes_52 at h
    refine lv_iconst (v := 1) hx hb dX9_bridgeTypes_52 (by decide) ?_
    refine lv_goto (tgt := 57) hx hb dX9_bridgeTypes_53 (by decide) ?_
    exact F57 k22 hk22 y1 y2 y3 1 h ls (lv_sub (l' := [(0, .ref a_z), (1, .int y1), (2, .int y2), (3, .int y3)]) hl [0, 1, 2, 3] rfl)
  have F22 : ∀ (n : Nat) (y1 : Int32) (y2 : Int32) (y3 : Int32), lX9_bridgeTypes_22 z_s z_changed n y1 y2 y3 = some r → ∀ ls : Array Slot, lv_has ls 5 [(0, .ref a_z), (1, .int y1), (2, .int y2), (3, .int y3)] → WP p l e rmX9_bridgeTypes s m av below meth c r 22 ls [] := by
    intro n
    induction n with
    | zero => intro y1 y2 y3 h; exact no_some h
    | succ n ih =>
      intro y1 y2 y3 h ls hl
      rw [lX9_bridgeTypes_22_s] at h
      refine lv_iload_n hx hb dX9_bridgeTypes_22 rfl (lv_at hl 3 rfl) ?_
      refine lv_iload_n hx hb dX9_bridgeTypes_23 rfl (lv_at hl 1 rfl) ?_
      refine lv_icmp_gt (tgt := 84) hx hb dX9_bridgeTypes_24 (by decide) (fun c1 => ?_) (fun c1 => ?_)
      · have h := ifp h c1
        refine lv_iload_n hx hb dX9_bridgeTypes_84 rfl (lv_at hl 2 rfl) ?_
        exact kRet hx hb hr hlk (Option.some.inj h) dX9_bridgeTypes_85
      · have h := ifn h c1
        refine lv_iload_n hx hb dX9_bridgeTypes_27 rfl (lv_at hl 3 rfl) ?_
        refine lv_iload_n hx hb dX9_bridgeTypes_28 rfl (lv_at hl 1 rfl) ?_
        refine lv_iconst (v := (-1)) hx hb dX9_bridgeTypes_29 (by decide) ?_
        refine lv_ixor hx hb dX9_bridgeTypes_30 ?_
        refine lv_iand hx hb dX9_bridgeTypes_31 ?_
        refine lv_if_ne (tgt := 56) hx hb dX9_bridgeTypes_32 (by decide) (fun c2 => ?_) (fun c2 => ?_)
        · have h := ifn h c2
          exact F56 (fun u1 u2 u3 => lX9_bridgeTypes_22 z_s z_changed n u1 u2 u3) (fun u1 u2 u3 h ls hl => ih u1 u2 u3 h ls hl) y1 y2 y3 h ls (lv_sub (l' := [(0, .ref a_z), (1, .int y1), (2, .int y2), (3, .int y3)]) hl [0, 1, 2, 3] rfl)
        · have h := ifp h c2
          refine lv_iload_n hx hb dX9_bridgeTypes_35 rfl (lv_at hl 2 rfl) ?_
          refine lv_bipush (v := (-9)) hx hb dX9_bridgeTypes_36 (by decide) ?_
          refine lv_icmp_eq (tgt := 52) hx hb dX9_bridgeTypes_38 (by decide) (fun c3 => ?_) (fun c3 => ?_)
          · have h := ifp h c3
            exact F52 (fun u1 u2 u3 => lX9_bridgeTypes_22 z_s z_changed n u1 u2 u3) (fun u1 u2 u3 h ls hl => ih u1 u2 u3 h ls hl) y1 y2 y3 h ls (lv_sub (l' := [(0, .ref a_z), (1, .int y1), (2, .int y2), (3, .int y3)]) hl [0, 1, 2, 3] rfl)
          · have h := ifn h c3
            refine lv_iload_n hx hb dX9_bridgeTypes_41 rfl (lv_at hl 3 rfl) ?_
            obtain ⟨v4, ev4, h⟩ := bn_some h
            refine kS (As := [.int y3]) (rest := []) SS hKK (qX9_ones l D cI cM y3 v4 ev4) cw154 va_P_nil rfl hl.1 rfl (Nat.le_of_ble_eq_true rfl) dX9_bridgeTypes_42 ⟨Nat.zero_le _, Nat.zero_le _⟩ ?_
            refine lv_iload_n hx hb dX9_bridgeTypes_45 rfl (lv_at hl 2 rfl) ?_
            obtain ⟨v5, ev5, h⟩ := bn_some h
            refine kS (As := [.int y2]) (rest := [.int v4]) SS hKK (qX9_ones l D cI cM y2 v5 ev5) cw154 va_P_nil rfl hl.1 rfl (Nat.le_of_ble_eq_true rfl) dX9_bridgeTypes_46 ⟨Nat.zero_le _, Nat.zero_le _⟩ ?_
            refine lv_icmp_ge (tgt := 56) hx hb dX9_bridgeTypes_49 (by decide) (fun c6 => ?_) (fun c6 => ?_)
            · have h := ifp h c6
              exact F56 (fun u1 u2 u3 => lX9_bridgeTypes_22 z_s z_changed n u1 u2 u3) (fun u1 u2 u3 h ls hl => ih u1 u2 u3 h ls hl) y1 y2 y3 h ls (lv_sub (l' := [(0, .ref a_z), (1, .int y1), (2, .int y2), (3, .int y3)]) hl [0, 1, 2, 3] rfl)
            · have h := ifn h c6
              exact F52 (fun u1 u2 u3 => lX9_bridgeTypes_22 z_s z_changed n u1 u2 u3) (fun u1 u2 u3 h ls hl => ih u1 u2 u3 h ls hl) y1 y2 y3 h ls (lv_sub (l' := [(0, .ref a_z), (1, .int y1), (2, .int y2), (3, .int y3)]) hl [0, 1, 2, 3] rfl)
  unfold fX9_bridgeTypes at h
  refine lv_aload_n hx hb dX9_bridgeTypes_0 rfl (lv_at hl 0 rfl) ?_
  refine va_get (D := D) (ci := 9) (v := .int z_changed) (C := RX9) (T := TX9) (N := 13) hx hb hts hinX9 hown hKK.1 hP 0 rfl rfl 3 (by decide) lk16 (fun _ h9 => h9) rfl dX9_bridgeTypes_1 ?_
  refine lv_bipush (v := (-9)) hx hb dX9_bridgeTypes_4 (by decide) ?_
  refine lv_icmp_ne (tgt := 12) hx hb dX9_bridgeTypes_6 (by decide) (fun c1 => ?_) (fun c1 => ?_)
  · have h := ifn h c1
    refine lv_aload_n hx hb dX9_bridgeTypes_12 rfl (lv_at hl 0 rfl) ?_
    obtain ⟨v2, ev2, h⟩ := bn_some h
    have hs3 : va_P D vwCl (W_z cI cM a_z a_z_s a_z_past a_z_keeps a_z_entryKey a_z_entryDefault a_z_held a_z_values a_z_kinds a_z_news z_s z_past z_pasts z_changed z_entries z_keeps z_entryKey z_entryDefault z_counter z_held z_values z_kinds z_news) _ := hP.sub (ws' := W_z cI cM a_z a_z_s a_z_past a_z_keeps a_z_entryKey a_z_entryDefault a_z_held a_z_values a_z_kinds a_z_news z_s z_past z_pasts z_changed z_entries z_keeps z_entryKey z_entryDefault z_counter z_held z_values z_kinds z_news) [0, 1, 2, 3, 4, 5, 6, 7, 8, 9] rfl
    refine kV (As := []) (rest := []) SS hKK (qX9_declaringTypes l D cI cM a_z a_z_s a_z_past a_z_keeps a_z_entryKey a_z_entryDefault a_z_held a_z_values a_z_kinds a_z_news z_s z_past z_pasts z_changed z_entries z_keeps z_entryKey z_entryDefault z_counter z_held z_values z_kinds z_news v2 ev2) cw190 hs3 0 9 rfl rfl rfl hl.1 rfl (Nat.le_of_ble_eq_true rfl) dX9_bridgeTypes_13 ⟨Nat.zero_le _, Nat.zero_le _⟩ ?_
    refine lv_istore_n (lv' := [(1, .int v2), (0, .ref a_z)]) hx hb dX9_bridgeTypes_16 rfl hl (by decide) rfl (fun ls hl => ?_)
    refine lv_bipush (v := (-9)) hx hb dX9_bridgeTypes_17 (by decide) ?_
    refine lv_istore_n (lv' := [(2, .int (-9)), (1, .int v2), (0, .ref a_z)]) hx hb dX9_bridgeTypes_19 rfl hl (by decide) rfl (fun ls hl => ?_)
    refine lv_iconst (v := 0) hx hb dX9_bridgeTypes_20 (by decide) ?_
    refine lv_istore_n (lv' := [(3, .int 0), (2, .int (-9)), (1, .int v2), (0, .ref a_z)]) hx hb dX9_bridgeTypes_21 rfl hl (by decide) rfl (fun ls hl => ?_)
    exact F22 5000 v2 (-9) 0 h ls (lv_sub (l' := [(0, .ref a_z), (1, .int v2), (2, .int (-9)), (3, .int 0)]) hl [3, 2, 1, 0] rfl)
  · have h := ifp h c1
    refine lv_bipush (v := (-2)) hx hb dX9_bridgeTypes_9 (by decide) ?_
    exact kRet hx hb hr hlk (Option.some.inj h) dX9_bridgeTypes_11
set_option maxHeartbeats 8000000 in
set_option maxRecDepth 100000 in
theorem qX9_hasSameKeys (l : Launch) (D : va_G) (cI cM : ClassId) (a_z a_z_s a_z_past a_z_keeps a_z_entryKey a_z_entryDefault a_z_held a_z_values a_z_kinds a_z_news : Nat) (z_s : Nat → Int32) (z_past : Nat → Int32) (z_pasts : Int32) (z_changed : Int32) (z_entries : Int32) (z_keeps : Nat → Int32) (z_entryKey : Nat → Int32) (z_entryDefault : Nat → Int32) (z_counter : Int32) (z_held : Nat → Int32) (z_values : Nat → Int32) (z_kinds : Nat → Int32) (z_news : Nat → Int32) (r : Int32) (h : fX9_hasSameKeys z_s z_changed z_entries z_entryKey = some r) : PM l yX9_hasSameKeys wsX9_hasSameKeys rmX9_hasSameKeys D cI cM [.ref a_z] (W_z cI cM a_z a_z_s a_z_past a_z_keeps a_z_entryKey a_z_entryDefault a_z_held a_z_values a_z_kinds a_z_news z_s z_past z_pasts z_changed z_entries z_keeps z_entryKey z_entryDefault z_counter z_held z_values z_kinds z_news) r := by
  refine PM.of (cc := cX9_hasSameKeys) (maxL := 3) (ret := (some .boolean)) (by decide) rfl (Nat.le_of_ble_eq_true rfl) ?_
  intro p e s m below meth c ls hx hb hr hml hown hts hlk hP hKK hl
  have hown : s.vm.findClass RX9 = some m.cls := hown
  have hl : lv_has ls 3 [(0, .ref a_z)] := hl
  generalize hav : ([.ref a_z] : List Value) = av at hts ⊢
  have SS : CallFix p m c cX9_hasSameKeys 3 s av.toArray wsX9_hasSameKeys RX9 := ⟨hx, hb, hml, hown, hts⟩
  have hinX9 : ∀ w ∈ u_ws RX9 TX9 13, w ∈ wsX9_hasSameKeys := by decide +kernel
  have lk16 := hts (.fieldLink RX9 16 "SignatureChangerModel" "changed" "I") (List.mem_of_getElem? (i := 2) rfl)
  have lk23 := hts (.fieldLink RX9 23 "SignatureChangerModel" "entryKey" "[I") (List.mem_of_getElem? (i := 3) rfl)
  have lk151 := hts (.fieldLink RX9 151 "SignatureChangerModel" "entries" "I") (List.mem_of_getElem? (i := 1) rfl)
  have cw63 : CallW rmX9_hasSameKeys s av.toArray RX9 RX9 63 yX9_of cX9_of 3 (some .int) wsX9_of rmX9_of 0 0 2 := cwV 2 hts gX9_hasSameKeys_X9_of rfl rfl rfl (by decide +kernel) ⟨Nat.le_of_ble_eq_true rfl, Nat.le_of_ble_eq_true rfl⟩
  have F61 : ∀ (k24 : Int32 → Int32 → Option (Int32)) (hk24 : ∀ (u1 : Int32) (u2 : Int32), k24 u1 u2 = some r → ∀ ls : Array Slot, lv_has ls 3 [(0, .ref a_z), (1, .int u1), (2, .int u2)] → WP p l e rmX9_hasSameKeys s m av below meth c r 24 ls []), ∀ (y2 : Int32) (s0 : Int32), jX9_hasSameKeys_61 z_s z_changed z_entries z_entryKey k24 y2 s0 = some r → ∀ ls : Array Slot, lv_has ls 3 [(0, .ref a_z), (2, .int y2)] → WP p l e rmX9_hasSameKeys s m av below meth c r 61 ls [.int s0] := by
    intro k24 hk24
    intro y2 s0 h ls hl
    unfold jX9_hasSameKeys_61 at h
    refine lv_istore_n (lv' := [(1, .int s0), (0, .ref a_z), (2, .int y2)]) hx hb dX9_hasSameKeys_61 rfl hl (by decide) rfl (fun ls hl => ?_)
    refine lv_iinc (v := y2 + 1) (lv' := [(2, .int (y2 + 1)), (1, .int s0), (0, .ref a_z)]) hx hb dX9_hasSameKeys_62 hl (k := 2) rfl rfl (by decide) rfl (fun ls hl => ?_)
    refine lv_goto (tgt := 24) hx hb dX9_hasSameKeys_65 (by decide) ?_
    exact hk24 s0 (y2 + 1) h ls (lv_sub (l' := [(0, .ref a_z), (1, .int s0), (2, .int (y2 + 1))]) hl [2, 1, 0] rfl)
  have F24 : ∀ (n : Nat) (y1 : Int32) (y2 : Int32), lX9_hasSameKeys_24 z_s z_changed z_entries z_entryKey n y1 y2 = some r → ∀ ls : Array Slot, lv_has ls 3 [(0, .ref a_z), (1, .int y1), (2, .int y2)] → WP p l e rmX9_hasSameKeys s m av below meth c r 24 ls [] := by
    intro n
    induction n with
    | zero => intro y1 y2 h; exact no_some h
    | succ n ih =>
      intro y1 y2 h ls hl
      rw [lX9_hasSameKeys_24_s] at h
      refine lv_iload_n hx hb dX9_hasSameKeys_24 rfl (lv_at hl 2 rfl) ?_
      refine lv_aload_n hx hb dX9_hasSameKeys_25 rfl (lv_at hl 0 rfl) ?_
      refine va_get (D := D) (ci := 9) (v := .int z_entries) (C := RX9) (T := TX9) (N := 13) hx hb hts hinX9 hown hKK.1 hP 0 rfl rfl 4 (by decide) lk151 (fun _ h9 => h9) rfl dX9_hasSameKeys_26 ?_
      refine lv_icmp_ge (tgt := 68) hx hb dX9_hasSameKeys_29 (by decide) (fun c1 => ?_) (fun c1 => ?_)
      · have h := ifp h c1
        refine lv_iload_n hx hb dX9_hasSameKeys_68 rfl (lv_at hl 1 rfl) ?_
        exact kRetZ hx hb hr hlk (rb_some h).2 (rb_some h).1 dX9_hasSameKeys_69
      · have h := ifn h c1
        refine lv_iload_n hx hb dX9_hasSameKeys_32 rfl (lv_at hl 1 rfl) ?_
        refine lv_if_eq (tgt := 68) hx hb dX9_hasSameKeys_33 (by decide) (fun c2 => ?_) (fun c2 => ?_)
        · have h := ifp h c2
          refine lv_iload_n hx hb dX9_hasSameKeys_68 rfl (lv_at hl 1 rfl) ?_
          exact kRetZ hx hb hr hlk (rb_some h).2 (rb_some h).1 dX9_hasSameKeys_69
        · have h := ifn h c2
          refine lv_aload_n hx hb dX9_hasSameKeys_36 rfl (lv_at hl 0 rfl) ?_
          refine va_get (D := D) (ci := 9) (v := .ref a_z_entryKey) (C := RX9) (T := TX9) (N := 13) hx hb hts hinX9 hown hKK.1 hP 0 rfl rfl 6 (by decide) lk23 (fun _ h9 => h9) rfl dX9_hasSameKeys_37 ?_
          refine lv_iload_n hx hb dX9_hasSameKeys_40 rfl (lv_at hl 2 rfl) ?_
          obtain ⟨v3, iv3, ev3, h⟩ := rd_some h
          refine kAld hx hb hKK hP 4 rfl iv3 ev3 dX9_hasSameKeys_41 ?_
          refine lv_aload_n hx hb dX9_hasSameKeys_42 rfl (lv_at hl 0 rfl) ?_
          refine lv_aload_n hx hb dX9_hasSameKeys_43 rfl (lv_at hl 0 rfl) ?_
          refine va_get (D := D) (ci := 9) (v := .int z_changed) (C := RX9) (T := TX9) (N := 13) hx hb hts hinX9 hown hKK.1 hP 0 rfl rfl 3 (by decide) lk16 (fun _ h9 => h9) rfl dX9_hasSameKeys_44 ?_
          refine lv_iconst (v := 3) hx hb dX9_hasSameKeys_47 (by decide) ?_
          refine lv_iload_n hx hb dX9_hasSameKeys_48 rfl (lv_at hl 2 rfl) ?_
          refine lv_iadd hx hb dX9_hasSameKeys_49 ?_
          obtain ⟨v4, ev4, h⟩ := bn_some h
          have hs5 : va_P D vwCl (W_z cI cM a_z a_z_s a_z_past a_z_keeps a_z_entryKey a_z_entryDefault a_z_held a_z_values a_z_kinds a_z_news z_s z_past z_pasts z_changed z_entries z_keeps z_entryKey z_entryDefault z_counter z_held z_values z_kinds z_news) _ := hP.sub (ws' := W_z cI cM a_z a_z_s a_z_past a_z_keeps a_z_entryKey a_z_entryDefault a_z_held a_z_values a_z_kinds a_z_news z_s z_past z_pasts z_changed z_entries z_keeps z_entryKey z_entryDefault z_counter z_held z_values z_kinds z_news) [0, 1, 2, 3, 4, 5, 6, 7, 8, 9] rfl
          refine kV (As := [.int z_changed, .int (3 + y2)]) (rest := [.int v3]) SS hKK (qX9_of l D cI cM a_z a_z_s a_z_past a_z_keeps a_z_entryKey a_z_entryDefault a_z_held a_z_values a_z_kinds a_z_news z_s z_past z_pasts z_changed z_entries z_keeps z_entryKey z_entryDefault z_counter z_held z_values z_kinds z_news z_changed (3 + y2) v4 ev4) cw63 hs5 0 9 rfl rfl rfl hl.1 rfl (Nat.le_of_ble_eq_true rfl) dX9_hasSameKeys_50 ⟨Nat.zero_le _, Nat.zero_le _⟩ ?_
          refine lv_icmp_ne (tgt := 60) hx hb dX9_hasSameKeys_53 (by decide) (fun c6 => ?_) (fun c6 => ?_)
          · have h := ifn h c6
            refine lv_iconst (v := 0) hx hb dX9_hasSameKeys_60 (by decide) ?_
            exact F61 (fun u1 u2 => lX9_hasSameKeys_24 z_s z_changed z_entries z_entryKey n u1 u2) (fun u1 u2 h ls hl => ih u1 u2 h ls hl) y2 0 h ls (lv_sub (l' := [(0, .ref a_z), (2, .int y2)]) hl [0, 2] rfl)
          · have h := ifp h c6
            refine lv_iconst (v := 1) hx hb dX9_hasSameKeys_56 (by decide) ?_
            refine lv_goto (tgt := 61) hx hb dX9_hasSameKeys_57 (by decide) ?_
            exact F61 (fun u1 u2 => lX9_hasSameKeys_24 z_s z_changed z_entries z_entryKey n u1 u2) (fun u1 u2 h ls hl => ih u1 u2 h ls hl) y2 1 h ls (lv_sub (l' := [(0, .ref a_z), (2, .int y2)]) hl [0, 2] rfl)
  have F21 : ∀ (s0 : Int32), jX9_hasSameKeys_21 z_s z_changed z_entries z_entryKey s0 = some r → ∀ ls : Array Slot, lv_has ls 3 [(0, .ref a_z)] → WP p l e rmX9_hasSameKeys s m av below meth c r 21 ls [.int s0] := by
    intro s0 h ls hl
    unfold jX9_hasSameKeys_21 at h
    refine lv_istore_n (lv' := [(1, .int s0), (0, .ref a_z)]) hx hb dX9_hasSameKeys_21 rfl hl (by decide) rfl (fun ls hl => ?_)
    refine lv_iconst (v := 0) hx hb dX9_hasSameKeys_22 (by decide) ?_
    refine lv_istore_n (lv' := [(2, .int 0), (1, .int s0), (0, .ref a_z)]) hx hb dX9_hasSameKeys_23 rfl hl (by decide) rfl (fun ls hl => ?_)
    exact F24 5000 s0 0 h ls (lv_sub (l' := [(0, .ref a_z), (1, .int s0), (2, .int 0)]) hl [2, 1, 0] rfl)
  unfold fX9_hasSameKeys at h
  refine lv_aload_n hx hb dX9_hasSameKeys_0 rfl (lv_at hl 0 rfl) ?_
  refine va_get (D := D) (ci := 9) (v := .int z_entries) (C := RX9) (T := TX9) (N := 13) hx hb hts hinX9 hown hKK.1 hP 0 rfl rfl 4 (by decide) lk151 (fun _ h9 => h9) rfl dX9_hasSameKeys_1 ?_
  refine lv_aload_n hx hb dX9_hasSameKeys_4 rfl (lv_at hl 0 rfl) ?_
  refine lv_aload_n hx hb dX9_hasSameKeys_5 rfl (lv_at hl 0 rfl) ?_
  refine va_get (D := D) (ci := 9) (v := .int z_changed) (C := RX9) (T := TX9) (N := 13) hx hb hts hinX9 hown hKK.1 hP 0 rfl rfl 3 (by decide) lk16 (fun _ h9 => h9) rfl dX9_hasSameKeys_6 ?_
  refine lv_iconst (v := 2) hx hb dX9_hasSameKeys_9 (by decide) ?_
  obtain ⟨v1, ev1, h⟩ := bn_some h
  have hs2 : va_P D vwCl (W_z cI cM a_z a_z_s a_z_past a_z_keeps a_z_entryKey a_z_entryDefault a_z_held a_z_values a_z_kinds a_z_news z_s z_past z_pasts z_changed z_entries z_keeps z_entryKey z_entryDefault z_counter z_held z_values z_kinds z_news) _ := hP.sub (ws' := W_z cI cM a_z a_z_s a_z_past a_z_keeps a_z_entryKey a_z_entryDefault a_z_held a_z_values a_z_kinds a_z_news z_s z_past z_pasts z_changed z_entries z_keeps z_entryKey z_entryDefault z_counter z_held z_values z_kinds z_news) [0, 1, 2, 3, 4, 5, 6, 7, 8, 9] rfl
  refine kV (As := [.int z_changed, .int 2]) (rest := [.int z_entries]) SS hKK (qX9_of l D cI cM a_z a_z_s a_z_past a_z_keeps a_z_entryKey a_z_entryDefault a_z_held a_z_values a_z_kinds a_z_news z_s z_past z_pasts z_changed z_entries z_keeps z_entryKey z_entryDefault z_counter z_held z_values z_kinds z_news z_changed 2 v1 ev1) cw63 hs2 0 9 rfl rfl rfl hl.1 rfl (Nat.le_of_ble_eq_true rfl) dX9_hasSameKeys_10 ⟨Nat.zero_le _, Nat.zero_le _⟩ ?_
  refine lv_icmp_ne (tgt := 20) hx hb dX9_hasSameKeys_13 (by decide) (fun c3 => ?_) (fun c3 => ?_)
  · have h := ifn h c3
    refine lv_iconst (v := 0) hx hb dX9_hasSameKeys_20 (by decide) ?_
    exact F21 0 h ls (lv_sub (l' := [(0, .ref a_z)]) hl [0] rfl)
  · have h := ifp h c3
    refine lv_iconst (v := 1) hx hb dX9_hasSameKeys_16 (by decide) ?_
    refine lv_goto (tgt := 21) hx hb dX9_hasSameKeys_17 (by decide) ?_
    exact F21 1 h ls (lv_sub (l' := [(0, .ref a_z)]) hl [0] rfl)
set_option maxHeartbeats 8000000 in
set_option maxRecDepth 100000 in
theorem qX9_isBarred (l : Launch) (D : va_G) (cI cM : ClassId) (a_z a_z_s a_z_past a_z_keeps a_z_entryKey a_z_entryDefault a_z_held a_z_values a_z_kinds a_z_news : Nat) (z_s : Nat → Int32) (z_past : Nat → Int32) (z_pasts : Int32) (z_changed : Int32) (z_entries : Int32) (z_keeps : Nat → Int32) (z_entryKey : Nat → Int32) (z_entryDefault : Nat → Int32) (z_counter : Int32) (z_held : Nat → Int32) (z_values : Nat → Int32) (z_kinds : Nat → Int32) (z_news : Nat → Int32) (r : Int32) (h : fX9_isBarred z_s z_changed z_entries z_entryKey = some r) : PM l yX9_isBarred wsX9_isBarred rmX9_isBarred D cI cM [.ref a_z] (W_z cI cM a_z a_z_s a_z_past a_z_keeps a_z_entryKey a_z_entryDefault a_z_held a_z_values a_z_kinds a_z_news z_s z_past z_pasts z_changed z_entries z_keeps z_entryKey z_entryDefault z_counter z_held z_values z_kinds z_news) r := by
  refine PM.of (cc := cX9_isBarred) (maxL := 3) (ret := (some .boolean)) (by decide) rfl (Nat.le_of_ble_eq_true rfl) ?_
  intro p e s m below meth c ls hx hb hr hml hown hts hlk hP hKK hl
  have hown : s.vm.findClass RX9 = some m.cls := hown
  have hl : lv_has ls 3 [(0, .ref a_z)] := hl
  generalize hav : ([.ref a_z] : List Value) = av at hts ⊢
  have SS : CallFix p m c cX9_isBarred 3 s av.toArray wsX9_isBarred RX9 := ⟨hx, hb, hml, hown, hts⟩
  have hinX9 : ∀ w ∈ u_ws RX9 TX9 13, w ∈ wsX9_isBarred := by decide +kernel
  have lk7 := hts (.fieldLink RX9 7 "SignatureChangerModel" "s" "[I") (List.mem_of_getElem? (i := 1) rfl)
  have lk16 := hts (.fieldLink RX9 16 "SignatureChangerModel" "changed" "I") (List.mem_of_getElem? (i := 3) rfl)
  have lk151 := hts (.fieldLink RX9 151 "SignatureChangerModel" "entries" "I") (List.mem_of_getElem? (i := 2) rfl)
  have cw63 : CallW rmX9_isBarred s av.toArray RX9 RX9 63 yX9_of cX9_of 3 (some .int) wsX9_of rmX9_of 0 0 2 := cwV 2 hts gX9_isBarred_X9_of rfl rfl rfl (by decide +kernel) ⟨Nat.le_of_ble_eq_true rfl, Nat.le_of_ble_eq_true rfl⟩
  have cw123 : CallW rmX9_isBarred s av.toArray RX9 RX9 123 yX9_isFrozen cX9_isFrozen 2 (some .boolean) wsX9_isFrozen rmX9_isFrozen 0 0 1 := cwV 1 hts gX9_isBarred_X9_isFrozen rfl rfl rfl (by decide +kernel) ⟨Nat.le_of_ble_eq_true rfl, Nat.le_of_ble_eq_true rfl⟩
  have cw181 : CallW rmX9_isBarred s av.toArray RX9 RX9 181 yX9_isConcerned cX9_isConcerned 2 (some .boolean) wsX9_isConcerned rmX9_isConcerned 0 0 1 := cwV 1 hts gX9_isBarred_X9_isConcerned rfl rfl rfl (by decide +kernel) ⟨Nat.le_of_ble_eq_true rfl, Nat.le_of_ble_eq_true rfl⟩
  have cw196 : CallW rmX9_isBarred s av.toArray RX9 RX9 196 yX9_hasSameKeys cX9_hasSameKeys 3 (some .boolean) wsX9_hasSameKeys rmX9_hasSameKeys 0 0 0 := cwV 0 hts gX9_isBarred_X9_hasSameKeys rfl rfl rfl (by decide +kernel) ⟨Nat.le_of_ble_eq_true rfl, Nat.le_of_ble_eq_true rfl⟩
  have F64 : ∀ (k4 : Int32 → Int32 → Option (Int32)) (hk4 : ∀ (u1 : Int32) (u2 : Int32), k4 u1 u2 = some r → ∀ ls : Array Slot, lv_has ls 3 [(0, .ref a_z), (1, .int u1), (2, .int u2)] → WP p l e rmX9_isBarred s m av below meth c r 4 ls []), ∀ (y2 : Int32) (s0 : Int32), jX9_isBarred_64 z_s z_changed z_entries z_entryKey k4 y2 s0 = some r → ∀ ls : Array Slot, lv_has ls 3 [(0, .ref a_z), (2, .int y2)] → WP p l e rmX9_isBarred s m av below meth c r 64 ls [.int s0] := by
    intro k4 hk4
    intro y2 s0 h ls hl
    unfold jX9_isBarred_64 at h
    refine lv_istore_n (lv' := [(1, .int s0), (0, .ref a_z), (2, .int y2)]) hx hb dX9_isBarred_64 rfl hl (by decide) rfl (fun ls hl => ?_)
    refine lv_iinc (v := y2 + 1) (lv' := [(2, .int (y2 + 1)), (1, .int s0), (0, .ref a_z)]) hx hb dX9_isBarred_65 hl (k := 2) rfl rfl (by decide) rfl (fun ls hl => ?_)
    refine lv_goto (tgt := 4) hx hb dX9_isBarred_68 (by decide) ?_
    exact hk4 s0 (y2 + 1) h ls (lv_sub (l' := [(0, .ref a_z), (1, .int s0), (2, .int (y2 + 1))]) hl [2, 1, 0] rfl)
  have F59 : ∀ (k4 : Int32 → Int32 → Option (Int32)) (hk4 : ∀ (u1 : Int32) (u2 : Int32), k4 u1 u2 = some r → ∀ ls : Array Slot, lv_has ls 3 [(0, .ref a_z), (1, .int u1), (2, .int u2)] → WP p l e rmX9_isBarred s m av below meth c r 4 ls []), ∀ (y2 : Int32), jX9_isBarred_59 z_s z_changed z_entries z_entryKey k4 y2 = some r → ∀ ls : Array Slot, lv_has ls 3 [(0, .ref a_z), (2, .int y2)] → WP p l e rmX9_isBarred s m av below meth c r 59 ls [] := by
    intro k4 hk4
    intro y2 h ls hl
    unfold jX9_isBarred_59 at h
    refine lv_iconst (v := 1) hx hb dX9_isBarred_59 (by decide) ?_
    refine lv_goto (tgt := 64) hx hb dX9_isBarred_60 (by decide) ?_
    exact F64 k4 hk4 y2 1 h ls (lv_sub (l' := [(0, .ref a_z), (2, .int y2)]) hl [0, 1] rfl)
  have F63 : ∀ (k4 : Int32 → Int32 → Option (Int32)) (hk4 : ∀ (u1 : Int32) (u2 : Int32), k4 u1 u2 = some r → ∀ ls : Array Slot, lv_has ls 3 [(0, .ref a_z), (1, .int u1), (2, .int u2)] → WP p l e rmX9_isBarred s m av below meth c r 4 ls []), ∀ (y2 : Int32), jX9_isBarred_63 z_s z_changed z_entries z_entryKey k4 y2 = some r → ∀ ls : Array Slot, lv_has ls 3 [(0, .ref a_z), (2, .int y2)] → WP p l e rmX9_isBarred s m av below meth c r 63 ls [] := by
    intro k4 hk4
    intro y2 h ls hl
    unfold jX9_isBarred_63 at h
    refine lv_iconst (v := 0) hx hb dX9_isBarred_63 (by decide) ?_
    exact F64 k4 hk4 y2 0 h ls (lv_sub (l' := [(0, .ref a_z), (2, .int y2)]) hl [0, 1] rfl)
  have F4 : ∀ (n : Nat) (y1 : Int32) (y2 : Int32), lX9_isBarred_4 z_s z_changed z_entries z_entryKey n y1 y2 = some r → ∀ ls : Array Slot, lv_has ls 3 [(0, .ref a_z), (1, .int y1), (2, .int y2)] → WP p l e rmX9_isBarred s m av below meth c r 4 ls [] := by
    intro n
    induction n with
    | zero => intro y1 y2 h; exact no_some h
    | succ n ih =>
      intro y1 y2 h ls hl
      rw [lX9_isBarred_4_s] at h
      refine lv_iload_n hx hb dX9_isBarred_4 rfl (lv_at hl 2 rfl) ?_
      refine lv_aload_n hx hb dX9_isBarred_5 rfl (lv_at hl 0 rfl) ?_
      refine va_get (D := D) (ci := 9) (v := .ref a_z_s) (C := RX9) (T := TX9) (N := 13) hx hb hts hinX9 hown hKK.1 hP 0 rfl rfl 0 (by decide) lk7 (fun _ h9 => h9) rfl dX9_isBarred_6 ?_
      refine lv_sipush (v := 234) hx hb dX9_isBarred_9 (by decide) ?_
      obtain ⟨v1, iv1, ev1, h⟩ := rd_some h
      refine kAld hx hb hKK hP 1 rfl iv1 ev1 dX9_isBarred_12 ?_
      refine lv_icmp_ge (tgt := 71) hx hb dX9_isBarred_13 (by decide) (fun c2 => ?_) (fun c2 => ?_)
      · have h := ifp h c2
        refine lv_iload_n hx hb dX9_isBarred_71 rfl (lv_at hl 1 rfl) ?_
        exact kRetZ hx hb hr hlk (rb_some h).2 (rb_some h).1 dX9_isBarred_72
      · have h := ifn h c2
        refine lv_iload_n hx hb dX9_isBarred_16 rfl (lv_at hl 1 rfl) ?_
        refine lv_if_ne (tgt := 59) hx hb dX9_isBarred_17 (by decide) (fun c3 => ?_) (fun c3 => ?_)
        · have h := ifn h c3
          exact F59 (fun u1 u2 => lX9_isBarred_4 z_s z_changed z_entries z_entryKey n u1 u2) (fun u1 u2 h ls hl => ih u1 u2 h ls hl) y2 h ls (lv_sub (l' := [(0, .ref a_z), (2, .int y2)]) hl [0, 2] rfl)
        · have h := ifp h c3
          refine lv_aload_n hx hb dX9_isBarred_20 rfl (lv_at hl 0 rfl) ?_
          refine lv_iload_n hx hb dX9_isBarred_21 rfl (lv_at hl 2 rfl) ?_
          obtain ⟨v4, ev4, h⟩ := bn_some h
          have hs5 : va_P D vwCl (W_z cI cM a_z a_z_s a_z_past a_z_keeps a_z_entryKey a_z_entryDefault a_z_held a_z_values a_z_kinds a_z_news z_s z_past z_pasts z_changed z_entries z_keeps z_entryKey z_entryDefault z_counter z_held z_values z_kinds z_news) _ := hP.sub (ws' := W_z cI cM a_z a_z_s a_z_past a_z_keeps a_z_entryKey a_z_entryDefault a_z_held a_z_values a_z_kinds a_z_news z_s z_past z_pasts z_changed z_entries z_keeps z_entryKey z_entryDefault z_counter z_held z_values z_kinds z_news) [0, 1, 2, 3, 4, 5, 6, 7, 8, 9] rfl
          refine kV (As := [.int y2]) (rest := []) SS hKK (qX9_isFrozen l D cI cM a_z a_z_s a_z_past a_z_keeps a_z_entryKey a_z_entryDefault a_z_held a_z_values a_z_kinds a_z_news z_s z_past z_pasts z_changed z_entries z_keeps z_entryKey z_entryDefault z_counter z_held z_values z_kinds z_news y2 v4 ev4) cw123 hs5 0 9 rfl rfl rfl hl.1 rfl (Nat.le_of_ble_eq_true rfl) dX9_isBarred_22 ⟨Nat.zero_le _, Nat.zero_le _⟩ ?_
          refine lv_if_eq (tgt := 63) hx hb dX9_isBarred_25 (by decide) (fun c6 => ?_) (fun c6 => ?_)
          · have h := ifp h c6
            exact F63 (fun u1 u2 => lX9_isBarred_4 z_s z_changed z_entries z_entryKey n u1 u2) (fun u1 u2 h ls hl => ih u1 u2 h ls hl) y2 h ls (lv_sub (l' := [(0, .ref a_z), (2, .int y2)]) hl [0, 2] rfl)
          · have h := ifn h c6
            refine lv_aload_n hx hb dX9_isBarred_28 rfl (lv_at hl 0 rfl) ?_
            refine lv_iload_n hx hb dX9_isBarred_29 rfl (lv_at hl 2 rfl) ?_
            obtain ⟨v7, ev7, h⟩ := bn_some h
            refine kV (As := [.int y2]) (rest := []) SS hKK (qX9_isConcerned l D cI cM a_z a_z_s a_z_past a_z_keeps a_z_entryKey a_z_entryDefault a_z_held a_z_values a_z_kinds a_z_news z_s z_past z_pasts z_changed z_entries z_keeps z_entryKey z_entryDefault z_counter z_held z_values z_kinds z_news y2 v7 ev7) cw181 hs5 0 9 rfl rfl rfl hl.1 rfl (Nat.le_of_ble_eq_true rfl) dX9_isBarred_30 ⟨Nat.zero_le _, Nat.zero_le _⟩ ?_
            refine lv_if_eq (tgt := 63) hx hb dX9_isBarred_33 (by decide) (fun c8 => ?_) (fun c8 => ?_)
            · have h := ifp h c8
              exact F63 (fun u1 u2 => lX9_isBarred_4 z_s z_changed z_entries z_entryKey n u1 u2) (fun u1 u2 h ls hl => ih u1 u2 h ls hl) y2 h ls (lv_sub (l' := [(0, .ref a_z), (2, .int y2)]) hl [0, 2] rfl)
            · have h := ifn h c8
              refine lv_aload_n hx hb dX9_isBarred_36 rfl (lv_at hl 0 rfl) ?_
              refine va_get (D := D) (ci := 9) (v := .int z_entries) (C := RX9) (T := TX9) (N := 13) hx hb hts hinX9 hown hKK.1 hP 0 rfl rfl 4 (by decide) lk151 (fun _ h9 => h9) rfl dX9_isBarred_37 ?_
              refine lv_aload_n hx hb dX9_isBarred_40 rfl (lv_at hl 0 rfl) ?_
              refine lv_aload_n hx hb dX9_isBarred_41 rfl (lv_at hl 0 rfl) ?_
              refine va_get (D := D) (ci := 9) (v := .int z_changed) (C := RX9) (T := TX9) (N := 13) hx hb hts hinX9 hown hKK.1 hP 0 rfl rfl 3 (by decide) lk16 (fun _ h9 => h9) rfl dX9_isBarred_42 ?_
              refine lv_iconst (v := 2) hx hb dX9_isBarred_45 (by decide) ?_
              obtain ⟨v9, ev9, h⟩ := bn_some h
              refine kV (As := [.int z_changed, .int 2]) (rest := [.int z_entries]) SS hKK (qX9_of l D cI cM a_z a_z_s a_z_past a_z_keeps a_z_entryKey a_z_entryDefault a_z_held a_z_values a_z_kinds a_z_news z_s z_past z_pasts z_changed z_entries z_keeps z_entryKey z_entryDefault z_counter z_held z_values z_kinds z_news z_changed 2 v9 ev9) cw63 hs5 0 9 rfl rfl rfl hl.1 rfl (Nat.le_of_ble_eq_true rfl) dX9_isBarred_46 ⟨Nat.zero_le _, Nat.zero_le _⟩ ?_
              refine lv_icmp_ne (tgt := 63) hx hb dX9_isBarred_49 (by decide) (fun c10 => ?_) (fun c10 => ?_)
              · have h := ifn h c10
                exact F63 (fun u1 u2 => lX9_isBarred_4 z_s z_changed z_entries z_entryKey n u1 u2) (fun u1 u2 h ls hl => ih u1 u2 h ls hl) y2 h ls (lv_sub (l' := [(0, .ref a_z), (2, .int y2)]) hl [0, 2] rfl)
              · have h := ifp h c10
                refine lv_aload_n hx hb dX9_isBarred_52 rfl (lv_at hl 0 rfl) ?_
                obtain ⟨v11, ev11, h⟩ := bn_some h
                refine kV (As := []) (rest := []) SS hKK (qX9_hasSameKeys l D cI cM a_z a_z_s a_z_past a_z_keeps a_z_entryKey a_z_entryDefault a_z_held a_z_values a_z_kinds a_z_news z_s z_past z_pasts z_changed z_entries z_keeps z_entryKey z_entryDefault z_counter z_held z_values z_kinds z_news v11 ev11) cw196 hs5 0 9 rfl rfl rfl hl.1 rfl (Nat.le_of_ble_eq_true rfl) dX9_isBarred_53 ⟨Nat.zero_le _, Nat.zero_le _⟩ ?_
                refine lv_if_ne (tgt := 63) hx hb dX9_isBarred_56 (by decide) (fun c12 => ?_) (fun c12 => ?_)
                · have h := ifn h c12
                  exact F63 (fun u1 u2 => lX9_isBarred_4 z_s z_changed z_entries z_entryKey n u1 u2) (fun u1 u2 h ls hl => ih u1 u2 h ls hl) y2 h ls (lv_sub (l' := [(0, .ref a_z), (2, .int y2)]) hl [0, 2] rfl)
                · have h := ifp h c12
                  exact F59 (fun u1 u2 => lX9_isBarred_4 z_s z_changed z_entries z_entryKey n u1 u2) (fun u1 u2 h ls hl => ih u1 u2 h ls hl) y2 h ls (lv_sub (l' := [(0, .ref a_z), (2, .int y2)]) hl [0, 2] rfl)
  unfold fX9_isBarred at h
  refine lv_iconst (v := 0) hx hb dX9_isBarred_0 (by decide) ?_
  refine lv_istore_n (lv' := [(1, .int 0), (0, .ref a_z)]) hx hb dX9_isBarred_1 rfl hl (by decide) rfl (fun ls hl => ?_)
  refine lv_iconst (v := 0) hx hb dX9_isBarred_2 (by decide) ?_
  refine lv_istore_n (lv' := [(2, .int 0), (1, .int 0), (0, .ref a_z)]) hx hb dX9_isBarred_3 rfl hl (by decide) rfl (fun ls hl => ?_)
  exact F4 5000 0 0 h ls (lv_sub (l' := [(0, .ref a_z), (1, .int 0), (2, .int 0)]) hl [2, 1, 0] rfl)
set_option maxHeartbeats 8000000 in
set_option maxRecDepth 100000 in
theorem qX9_hasRoom (l : Launch) (D : va_G) (cI cM : ClassId) (a_z a_z_s a_z_past a_z_keeps a_z_entryKey a_z_entryDefault a_z_held a_z_values a_z_kinds a_z_news : Nat) (z_s : Nat → Int32) (z_past : Nat → Int32) (z_pasts : Int32) (z_changed : Int32) (z_entries : Int32) (z_keeps : Nat → Int32) (z_entryKey : Nat → Int32) (z_entryDefault : Nat → Int32) (z_counter : Int32) (z_held : Nat → Int32) (z_values : Nat → Int32) (z_kinds : Nat → Int32) (z_news : Nat → Int32) (r : Int32) (h : fX9_hasRoom z_s z_changed z_entries z_keeps = some r) : PM l yX9_hasRoom wsX9_hasRoom rmX9_hasRoom D cI cM [.ref a_z] (W_z cI cM a_z a_z_s a_z_past a_z_keeps a_z_entryKey a_z_entryDefault a_z_held a_z_values a_z_kinds a_z_news z_s z_past z_pasts z_changed z_entries z_keeps z_entryKey z_entryDefault z_counter z_held z_values z_kinds z_news) r := by
  refine PM.of (cc := cX9_hasRoom) (maxL := 3) (ret := (some .boolean)) (by decide) rfl (Nat.le_of_ble_eq_true rfl) ?_
  intro p e s m below meth c ls hx hb hr hml hown hts hlk hP hKK hl
  have hown : s.vm.findClass RX9 = some m.cls := hown
  have hl : lv_has ls 3 [(0, .ref a_z)] := hl
  generalize hav : ([.ref a_z] : List Value) = av at hts ⊢
  have SS : CallFix p m c cX9_hasRoom 3 s av.toArray wsX9_hasRoom RX9 := ⟨hx, hb, hml, hown, hts⟩
  have hinX9 : ∀ w ∈ u_ws RX9 TX9 13, w ∈ wsX9_hasRoom := by decide +kernel
  have lk7 := hts (.fieldLink RX9 7 "SignatureChangerModel" "s" "[I") (List.mem_of_getElem? (i := 1) rfl)
  have cw111 : CallW rmX9_hasRoom s av.toArray RX9 RX9 111 yX9_at cX9_at 3 (some .int) wsX9_at rmX9_at 0 0 2 := cwV 2 hts gX9_hasRoom_X9_at rfl rfl rfl (by decide +kernel) ⟨Nat.le_of_ble_eq_true rfl, Nat.le_of_ble_eq_true rfl⟩
  have cw123 : CallW rmX9_hasRoom s av.toArray RX9 RX9 123 yX9_isFrozen cX9_isFrozen 2 (some .boolean) wsX9_isFrozen rmX9_isFrozen 0 0 1 := cwV 1 hts gX9_hasRoom_X9_isFrozen rfl rfl rfl (by decide +kernel) ⟨Nat.le_of_ble_eq_true rfl, Nat.le_of_ble_eq_true rfl⟩
  have cw154 : CallB rmX9_hasRoom s av.toArray RX9 154 yX9_ones cX9_ones 3 (some .int) wsX9_ones rmX9_ones 0 0 1 ∧ (Cond.static yX9_ones).before av.toArray s = true := va_cwS 1 hts gX9_hasRoom_X9_ones rfl rfl rfl (by decide +kernel) ⟨Nat.le_of_ble_eq_true rfl, Nat.le_of_ble_eq_true rfl⟩
  have cw181 : CallW rmX9_hasRoom s av.toArray RX9 RX9 181 yX9_isConcerned cX9_isConcerned 2 (some .boolean) wsX9_isConcerned rmX9_isConcerned 0 0 1 := cwV 1 hts gX9_hasRoom_X9_isConcerned rfl rfl rfl (by decide +kernel) ⟨Nat.le_of_ble_eq_true rfl, Nat.le_of_ble_eq_true rfl⟩
  have cw184 : CallW rmX9_hasRoom s av.toArray RX9 RX9 184 yX9_hoistedOf cX9_hoistedOf 5 (some .int) wsX9_hoistedOf rmX9_hoistedOf 0 0 1 := cwV 1 hts gX9_hasRoom_X9_hoistedOf rfl rfl rfl (by decide +kernel) ⟨Nat.le_of_ble_eq_true rfl, Nat.le_of_ble_eq_true rfl⟩
  have F67 : ∀ (k4 : Int32 → Int32 → Option (Int32)) (hk4 : ∀ (u1 : Int32) (u2 : Int32), k4 u1 u2 = some r → ∀ ls : Array Slot, lv_has ls 3 [(0, .ref a_z), (1, .int u1), (2, .int u2)] → WP p l e rmX9_hasRoom s m av below meth c r 4 ls []), ∀ (y2 : Int32) (s0 : Int32), jX9_hasRoom_67 z_s z_changed z_entries z_keeps k4 y2 s0 = some r → ∀ ls : Array Slot, lv_has ls 3 [(0, .ref a_z), (2, .int y2)] → WP p l e rmX9_hasRoom s m av below meth c r 67 ls [.int s0] := by
    intro k4 hk4
    intro y2 s0 h ls hl
    unfold jX9_hasRoom_67 at h
    refine lv_istore_n (lv' := [(1, .int s0), (0, .ref a_z), (2, .int y2)]) hx hb dX9_hasRoom_67 rfl hl (by decide) rfl (fun ls hl => ?_)
    refine lv_iinc (v := y2 + 1) (lv' := [(2, .int (y2 + 1)), (1, .int s0), (0, .ref a_z)]) hx hb dX9_hasRoom_68 hl (k := 2) rfl rfl (by decide) rfl (fun ls hl => ?_)
    refine lv_goto (tgt := 4) hx hb dX9_hasRoom_71 (by decide) ?_
    exact hk4 s0 (y2 + 1) h ls (lv_sub (l' := [(0, .ref a_z), (1, .int s0), (2, .int (y2 + 1))]) hl [2, 1, 0] rfl)
  have F66 : ∀ (k4 : Int32 → Int32 → Option (Int32)) (hk4 : ∀ (u1 : Int32) (u2 : Int32), k4 u1 u2 = some r → ∀ ls : Array Slot, lv_has ls 3 [(0, .ref a_z), (1, .int u1), (2, .int u2)] → WP p l e rmX9_hasRoom s m av below meth c r 4 ls []), ∀ (y2 : Int32), jX9_hasRoom_66 z_s z_changed z_entries z_keeps k4 y2 = some r → ∀ ls : Array Slot, lv_has ls 3 [(0, .ref a_z), (2, .int y2)] → WP p l e rmX9_hasRoom s m av below meth c r 66 ls [] := by
    intro k4 hk4
    intro y2 h ls hl
    unfold jX9_hasRoom_66 at h
    refine lv_iconst (v := 0) hx hb dX9_hasRoom_66 (by decide) ?_
    exact F67 k4 hk4 y2 0 h ls (lv_sub (l' := [(0, .ref a_z), (2, .int y2)]) hl [0, 1] rfl)
  have F62 : ∀ (k4 : Int32 → Int32 → Option (Int32)) (hk4 : ∀ (u1 : Int32) (u2 : Int32), k4 u1 u2 = some r → ∀ ls : Array Slot, lv_has ls 3 [(0, .ref a_z), (1, .int u1), (2, .int u2)] → WP p l e rmX9_hasRoom s m av below meth c r 4 ls []), ∀ (y2 : Int32), jX9_hasRoom_62 z_s z_changed z_entries z_keeps k4 y2 = some r → ∀ ls : Array Slot, lv_has ls 3 [(0, .ref a_z), (2, .int y2)] → WP p l e rmX9_hasRoom s m av below meth c r 62 ls [] := by
    intro k4 hk4
    intro y2 h ls hl
    unfold jX9_hasRoom_62 at h
    refine lv_iconst (v := 1) hx hb dX9_hasRoom_62 (by decide) ?_
    refine lv_goto (tgt := 67) hx hb dX9_hasRoom_63 (by decide) ?_
    exact F67 k4 hk4 y2 1 h ls (lv_sub (l' := [(0, .ref a_z), (2, .int y2)]) hl [0, 1] rfl)
  have F4 : ∀ (n : Nat) (y1 : Int32) (y2 : Int32), lX9_hasRoom_4 z_s z_changed z_entries z_keeps n y1 y2 = some r → ∀ ls : Array Slot, lv_has ls 3 [(0, .ref a_z), (1, .int y1), (2, .int y2)] → WP p l e rmX9_hasRoom s m av below meth c r 4 ls [] := by
    intro n
    induction n with
    | zero => intro y1 y2 h; exact no_some h
    | succ n ih =>
      intro y1 y2 h ls hl
      rw [lX9_hasRoom_4_s] at h
      refine lv_iload_n hx hb dX9_hasRoom_4 rfl (lv_at hl 2 rfl) ?_
      refine lv_aload_n hx hb dX9_hasRoom_5 rfl (lv_at hl 0 rfl) ?_
      refine va_get (D := D) (ci := 9) (v := .ref a_z_s) (C := RX9) (T := TX9) (N := 13) hx hb hts hinX9 hown hKK.1 hP 0 rfl rfl 0 (by decide) lk7 (fun _ h9 => h9) rfl dX9_hasRoom_6 ?_
      refine lv_sipush (v := 234) hx hb dX9_hasRoom_9 (by decide) ?_
      obtain ⟨v1, iv1, ev1, h⟩ := rd_some h
      refine kAld hx hb hKK hP 1 rfl iv1 ev1 dX9_hasRoom_12 ?_
      refine lv_icmp_ge (tgt := 74) hx hb dX9_hasRoom_13 (by decide) (fun c2 => ?_) (fun c2 => ?_)
      · have h := ifp h c2
        refine lv_iload_n hx hb dX9_hasRoom_74 rfl (lv_at hl 1 rfl) ?_
        exact kRetZ hx hb hr hlk (rb_some h).2 (rb_some h).1 dX9_hasRoom_75
      · have h := ifn h c2
        refine lv_iload_n hx hb dX9_hasRoom_16 rfl (lv_at hl 1 rfl) ?_
        refine lv_if_eq (tgt := 66) hx hb dX9_hasRoom_17 (by decide) (fun c3 => ?_) (fun c3 => ?_)
        · have h := ifp h c3
          exact F66 (fun u1 u2 => lX9_hasRoom_4 z_s z_changed z_entries z_keeps n u1 u2) (fun u1 u2 h ls hl => ih u1 u2 h ls hl) y2 h ls (lv_sub (l' := [(0, .ref a_z), (2, .int y2)]) hl [0, 2] rfl)
        · have h := ifn h c3
          refine lv_aload_n hx hb dX9_hasRoom_20 rfl (lv_at hl 0 rfl) ?_
          refine lv_iload_n hx hb dX9_hasRoom_21 rfl (lv_at hl 2 rfl) ?_
          obtain ⟨v4, ev4, h⟩ := bn_some h
          have hs5 : va_P D vwCl (W_z cI cM a_z a_z_s a_z_past a_z_keeps a_z_entryKey a_z_entryDefault a_z_held a_z_values a_z_kinds a_z_news z_s z_past z_pasts z_changed z_entries z_keeps z_entryKey z_entryDefault z_counter z_held z_values z_kinds z_news) _ := hP.sub (ws' := W_z cI cM a_z a_z_s a_z_past a_z_keeps a_z_entryKey a_z_entryDefault a_z_held a_z_values a_z_kinds a_z_news z_s z_past z_pasts z_changed z_entries z_keeps z_entryKey z_entryDefault z_counter z_held z_values z_kinds z_news) [0, 1, 2, 3, 4, 5, 6, 7, 8, 9] rfl
          refine kV (As := [.int y2]) (rest := []) SS hKK (qX9_isFrozen l D cI cM a_z a_z_s a_z_past a_z_keeps a_z_entryKey a_z_entryDefault a_z_held a_z_values a_z_kinds a_z_news z_s z_past z_pasts z_changed z_entries z_keeps z_entryKey z_entryDefault z_counter z_held z_values z_kinds z_news y2 v4 ev4) cw123 hs5 0 9 rfl rfl rfl hl.1 rfl (Nat.le_of_ble_eq_true rfl) dX9_hasRoom_22 ⟨Nat.zero_le _, Nat.zero_le _⟩ ?_
          refine lv_if_ne (tgt := 62) hx hb dX9_hasRoom_25 (by decide) (fun c6 => ?_) (fun c6 => ?_)
          · have h := ifn h c6
            exact F62 (fun u1 u2 => lX9_hasRoom_4 z_s z_changed z_entries z_keeps n u1 u2) (fun u1 u2 h ls hl => ih u1 u2 h ls hl) y2 h ls (lv_sub (l' := [(0, .ref a_z), (2, .int y2)]) hl [0, 2] rfl)
          · have h := ifp h c6
            refine lv_aload_n hx hb dX9_hasRoom_28 rfl (lv_at hl 0 rfl) ?_
            refine lv_iload_n hx hb dX9_hasRoom_29 rfl (lv_at hl 2 rfl) ?_
            obtain ⟨v7, ev7, h⟩ := bn_some h
            refine kV (As := [.int y2]) (rest := []) SS hKK (qX9_isConcerned l D cI cM a_z a_z_s a_z_past a_z_keeps a_z_entryKey a_z_entryDefault a_z_held a_z_values a_z_kinds a_z_news z_s z_past z_pasts z_changed z_entries z_keeps z_entryKey z_entryDefault z_counter z_held z_values z_kinds z_news y2 v7 ev7) cw181 hs5 0 9 rfl rfl rfl hl.1 rfl (Nat.le_of_ble_eq_true rfl) dX9_hasRoom_30 ⟨Nat.zero_le _, Nat.zero_le _⟩ ?_
            refine lv_if_eq (tgt := 62) hx hb dX9_hasRoom_33 (by decide) (fun c8 => ?_) (fun c8 => ?_)
            · have h := ifp h c8
              exact F62 (fun u1 u2 => lX9_hasRoom_4 z_s z_changed z_entries z_keeps n u1 u2) (fun u1 u2 h ls hl => ih u1 u2 h ls hl) y2 h ls (lv_sub (l' := [(0, .ref a_z), (2, .int y2)]) hl [0, 2] rfl)
            · have h := ifn h c8
              refine lv_aload_n hx hb dX9_hasRoom_36 rfl (lv_at hl 0 rfl) ?_
              refine va_get (D := D) (ci := 9) (v := .ref a_z_s) (C := RX9) (T := TX9) (N := 13) hx hb hts hinX9 hown hKK.1 hP 0 rfl rfl 0 (by decide) lk7 (fun _ h9 => h9) rfl dX9_hasRoom_37 ?_
              refine lv_aload_n hx hb dX9_hasRoom_40 rfl (lv_at hl 0 rfl) ?_
              refine lv_iload_n hx hb dX9_hasRoom_41 rfl (lv_at hl 2 rfl) ?_
              refine lv_bipush (v := 20) hx hb dX9_hasRoom_42 (by decide) ?_
              obtain ⟨v9, ev9, h⟩ := bn_some h
              refine kV (As := [.int y2, .int 20]) (rest := [.ref a_z_s]) SS hKK (qX9_at l D cI cM a_z a_z_s a_z_past a_z_keeps a_z_entryKey a_z_entryDefault a_z_held a_z_values a_z_kinds a_z_news z_s z_past z_pasts z_changed z_entries z_keeps z_entryKey z_entryDefault z_counter z_held z_values z_kinds z_news y2 20 v9 ev9) cw111 hs5 0 9 rfl rfl rfl hl.1 rfl (Nat.le_of_ble_eq_true rfl) dX9_hasRoom_44 ⟨Nat.zero_le _, Nat.zero_le _⟩ ?_
              obtain ⟨v10, iv10, ev10, h⟩ := rd_some h
              refine kAld hx hb hKK hP 1 rfl iv10 ev10 dX9_hasRoom_47 ?_
              refine lv_aload_n hx hb dX9_hasRoom_48 rfl (lv_at hl 0 rfl) ?_
              refine lv_iload_n hx hb dX9_hasRoom_49 rfl (lv_at hl 2 rfl) ?_
              obtain ⟨v11, ev11, h⟩ := bn_some h
              refine kV (As := [.int y2]) (rest := [.int v10]) SS hKK (qX9_hoistedOf l D cI cM a_z a_z_s a_z_past a_z_keeps a_z_entryKey a_z_entryDefault a_z_held a_z_values a_z_kinds a_z_news z_s z_past z_pasts z_changed z_entries z_keeps z_entryKey z_entryDefault z_counter z_held z_values z_kinds z_news y2 v11 ev11) cw184 hs5 0 9 rfl rfl rfl hl.1 rfl (Nat.le_of_ble_eq_true rfl) dX9_hasRoom_50 ⟨Nat.zero_le _, Nat.zero_le _⟩ ?_
              obtain ⟨v12, ev12, h⟩ := bn_some h
              refine kS (As := [.int v11]) (rest := [.int v10]) SS hKK (qX9_ones l D cI cM v11 v12 ev12) cw154 va_P_nil rfl hl.1 rfl (Nat.le_of_ble_eq_true rfl) dX9_hasRoom_53 ⟨Nat.zero_le _, Nat.zero_le _⟩ ?_
              refine lv_iadd hx hb dX9_hasRoom_56 ?_
              refine lv_bipush (v := 8) hx hb dX9_hasRoom_57 (by decide) ?_
              refine lv_icmp_gt (tgt := 66) hx hb dX9_hasRoom_59 (by decide) (fun c13 => ?_) (fun c13 => ?_)
              · have h := ifp h c13
                exact F66 (fun u1 u2 => lX9_hasRoom_4 z_s z_changed z_entries z_keeps n u1 u2) (fun u1 u2 h ls hl => ih u1 u2 h ls hl) y2 h ls (lv_sub (l' := [(0, .ref a_z), (2, .int y2)]) hl [0, 2] rfl)
              · have h := ifn h c13
                exact F62 (fun u1 u2 => lX9_hasRoom_4 z_s z_changed z_entries z_keeps n u1 u2) (fun u1 u2 h ls hl => ih u1 u2 h ls hl) y2 h ls (lv_sub (l' := [(0, .ref a_z), (2, .int y2)]) hl [0, 2] rfl)
  unfold fX9_hasRoom at h
  refine lv_iconst (v := 1) hx hb dX9_hasRoom_0 (by decide) ?_
  refine lv_istore_n (lv' := [(1, .int 1), (0, .ref a_z)]) hx hb dX9_hasRoom_1 rfl hl (by decide) rfl (fun ls hl => ?_)
  refine lv_iconst (v := 0) hx hb dX9_hasRoom_2 (by decide) ?_
  refine lv_istore_n (lv' := [(2, .int 0), (1, .int 1), (0, .ref a_z)]) hx hb dX9_hasRoom_3 rfl hl (by decide) rfl (fun ls hl => ?_)
  exact F4 5000 1 0 h ls (lv_sub (l' := [(0, .ref a_z), (1, .int 1), (2, .int 0)]) hl [2, 1, 0] rfl)
set_option maxHeartbeats 8000000 in
set_option maxRecDepth 100000 in
theorem qX9_rewrite (l : Launch) (D : va_G) (cI cM : ClassId) (a_z a_z_s a_z_past a_z_keeps a_z_entryKey a_z_entryDefault a_z_held a_z_values a_z_kinds a_z_news : Nat) (z_s : Nat → Int32) (z_past : Nat → Int32) (z_pasts : Int32) (z_changed : Int32) (z_entries : Int32) (z_keeps : Nat → Int32) (z_entryKey : Nat → Int32) (z_entryDefault : Nat → Int32) (z_counter : Int32) (z_held : Nat → Int32) (z_values : Nat → Int32) (z_kinds : Nat → Int32) (z_news : Nat → Int32) (x1 : Int32) (r_z_s : Nat → Int32) (r_z_kinds : Nat → Int32) (r_z_news : Nat → Int32) (h : fX9_rewrite z_s z_entries z_keeps z_entryKey z_entryDefault z_kinds z_news x1 = some (r_z_s, r_z_kinds, r_z_news)) : IM l yX9_rewrite wsX9_rewrite rmX9_rewrite D cI cM [.ref a_z, .int x1] (W_z cI cM a_z a_z_s a_z_past a_z_keeps a_z_entryKey a_z_entryDefault a_z_held a_z_values a_z_kinds a_z_news z_s z_past z_pasts z_changed z_entries z_keeps z_entryKey z_entryDefault z_counter z_held z_values z_kinds z_news) (W_z cI cM a_z a_z_s a_z_past a_z_keeps a_z_entryKey a_z_entryDefault a_z_held a_z_values a_z_kinds a_z_news r_z_s z_past z_pasts z_changed z_entries z_keeps z_entryKey z_entryDefault z_counter z_held z_values r_z_kinds r_z_news) none := by
  refine IM.of (cc := cX9_rewrite) (maxL := 6) (ret := none) (by decide) rfl (Nat.le_of_ble_eq_true rfl) ?_
  intro p e s m below meth c ls hx hb hr hml hown hts hlk hKK hP hD hS hl
  have hown : s.vm.findClass RX9 = some m.cls := hown
  have hl : lv_has ls 6 [(0, .ref a_z), (1, .int x1)] := hl
  generalize hav : ([.ref a_z, .int x1] : List Value) = av at hts ⊢
  generalize hw1 : W_z cI cM a_z a_z_s a_z_past a_z_keeps a_z_entryKey a_z_entryDefault a_z_held a_z_values a_z_kinds a_z_news r_z_s z_past z_pasts z_changed z_entries z_keeps z_entryKey z_entryDefault z_counter z_held z_values r_z_kinds r_z_news = w1
  generalize hw0 : W_z cI cM a_z a_z_s a_z_past a_z_keeps a_z_entryKey a_z_entryDefault a_z_held a_z_values a_z_kinds a_z_news z_s z_past z_pasts z_changed z_entries z_keeps z_entryKey z_entryDefault z_counter z_held z_values z_kinds z_news = w0 at hD hS ⊢
  have hP : va_P D vwCl (W_z cI cM a_z a_z_s a_z_past a_z_keeps a_z_entryKey a_z_entryDefault a_z_held a_z_values a_z_kinds a_z_news z_s z_past z_pasts z_changed z_entries z_keeps z_entryKey z_entryDefault z_counter z_held z_values z_kinds z_news) s.heap := hP
  have hD : va_D (fun q => q ∈ w0.map (·.1)) (W_z cI cM a_z a_z_s a_z_past a_z_keeps a_z_entryKey a_z_entryDefault a_z_held a_z_values a_z_kinds a_z_news z_s z_past z_pasts z_changed z_entries z_keeps z_entryKey z_entryDefault z_counter z_held z_values z_kinds z_news) := by rw [hw0]; exact hD
  have SS : CallFix p m c cX9_rewrite 6 s av.toArray wsX9_rewrite RX9 := ⟨hx, hb, hml, hown, hts⟩
  have hinX9 : ∀ w ∈ u_ws RX9 TX9 13, w ∈ wsX9_rewrite := by decide +kernel
  have lk7 := hts (.fieldLink RX9 7 "SignatureChangerModel" "s" "[I") (List.mem_of_getElem? (i := 1) rfl)
  have lk20 := hts (.fieldLink RX9 20 "SignatureChangerModel" "keeps" "[I") (List.mem_of_getElem? (i := 5) rfl)
  have lk23 := hts (.fieldLink RX9 23 "SignatureChangerModel" "entryKey" "[I") (List.mem_of_getElem? (i := 7) rfl)
  have lk26 := hts (.fieldLink RX9 26 "SignatureChangerModel" "entryDefault" "[I") (List.mem_of_getElem? (i := 6) rfl)
  have lk35 := hts (.fieldLink RX9 35 "SignatureChangerModel" "kinds" "[I") (List.mem_of_getElem? (i := 2) rfl)
  have lk38 := hts (.fieldLink RX9 38 "SignatureChangerModel" "news" "[I") (List.mem_of_getElem? (i := 3) rfl)
  have lk151 := hts (.fieldLink RX9 151 "SignatureChangerModel" "entries" "I") (List.mem_of_getElem? (i := 4) rfl)
  have cw48 : CallB rmX9_rewrite s av.toArray RX9 48 yX9_has cX9_has 2 (some .boolean) wsX9_has rmX9_has 0 0 2 ∧ (Cond.static yX9_has).before av.toArray s = true := va_cwS 2 hts gX9_rewrite_X9_has rfl rfl rfl (by decide +kernel) ⟨Nat.le_of_ble_eq_true rfl, Nat.le_of_ble_eq_true rfl⟩
  have cw111 : CallW rmX9_rewrite s av.toArray RX9 RX9 111 yX9_at cX9_at 3 (some .int) wsX9_at rmX9_at 0 0 2 := cwV 2 hts gX9_rewrite_X9_at rfl rfl rfl (by decide +kernel) ⟨Nat.le_of_ble_eq_true rfl, Nat.le_of_ble_eq_true rfl⟩
  have cw169 : CallW rmX9_rewrite s av.toArray RX9 RX9 169 yX9_kindOf cX9_kindOf 3 (some .int) wsX9_kindOf rmX9_kindOf 0 0 2 := cwV 2 hts gX9_rewrite_X9_kindOf rfl rfl rfl (by decide +kernel) ⟨Nat.le_of_ble_eq_true rfl, Nat.le_of_ble_eq_true rfl⟩
  have cw184 : CallW rmX9_rewrite s av.toArray RX9 RX9 184 yX9_hoistedOf cX9_hoistedOf 5 (some .int) wsX9_hoistedOf rmX9_hoistedOf 0 0 1 := cwV 1 hts gX9_rewrite_X9_hoistedOf rfl rfl rfl (by decide +kernel) ⟨Nat.le_of_ble_eq_true rfl, Nat.le_of_ble_eq_true rfl⟩
  have F323 : ∀ (k165 : (Nat → Int32) → (Nat → Int32) → (Nat → Int32) → Int32 → Int32 → Option ((Nat → Int32) × (Nat → Int32) × (Nat → Int32))) (hk165 : ∀ (H : Heap) (locs : List Loc) (w_z_s : Nat → Int32) (w_z_kinds : Nat → Int32) (w_z_news : Nat → Int32) (u1 : Int32) (u4 : Int32), k165 w_z_s w_z_kinds w_z_news u1 u4 = some (r_z_s, r_z_kinds, r_z_news) → va_P D vwCl (W_z cI cM a_z a_z_s a_z_past a_z_keeps a_z_entryKey a_z_entryDefault a_z_held a_z_values a_z_kinds a_z_news w_z_s z_past z_pasts z_changed z_entries z_keeps z_entryKey z_entryDefault z_counter z_held z_values w_z_kinds w_z_news) H → va_D (fun q => q ∈ w0.map (·.1)) (W_z cI cM a_z a_z_s a_z_past a_z_keeps a_z_entryKey a_z_entryDefault a_z_held a_z_values a_z_kinds a_z_news w_z_s z_past z_pasts z_changed z_entries z_keeps z_entryKey z_entryDefault z_counter z_held z_values w_z_kinds w_z_news) → va_S (fun q => q ∈ w0.map (·.1)) s.heap H locs → ∀ ls : Array Slot, lv_has ls 6 [(0, .ref a_z), (1, .int u1), (4, .int u4)] → WI p l e rmX9_rewrite s m av below meth c D w0 w1 none H locs 165 ls []), ∀ (H : Heap) (locs : List Loc) (z_s : Nat → Int32) (z_kinds : Nat → Int32) (z_news : Nat → Int32) (y1 : Int32) (y4 : Int32) (s1 : Int32) (s2 : Int32), jX9_rewrite_323 z_entries z_keeps z_entryKey z_entryDefault k165 z_s z_kinds z_news y1 y4 s1 s2 = some (r_z_s, r_z_kinds, r_z_news) → va_P D vwCl (W_z cI cM a_z a_z_s a_z_past a_z_keeps a_z_entryKey a_z_entryDefault a_z_held a_z_values a_z_kinds a_z_news z_s z_past z_pasts z_changed z_entries z_keeps z_entryKey z_entryDefault z_counter z_held z_values z_kinds z_news) H → va_D (fun q => q ∈ (w0).map (·.1)) (W_z cI cM a_z a_z_s a_z_past a_z_keeps a_z_entryKey a_z_entryDefault a_z_held a_z_values a_z_kinds a_z_news z_s z_past z_pasts z_changed z_entries z_keeps z_entryKey z_entryDefault z_counter z_held z_values z_kinds z_news) → va_S (fun q => q ∈ (w0).map (·.1)) s.heap H locs → ∀ ls : Array Slot, lv_has ls 6 [(0, .ref a_z), (1, .int y1), (4, .int y4)] → WI p l e rmX9_rewrite s m av below meth c D w0 w1 none H locs 323 ls [.int s2, .int s1, .ref a_z_s] := by
    intro k165 hk165
    intro H locs z_s z_kinds z_news y1 y4 s1 s2 h hP hD hS ls hl
    unfold jX9_rewrite_323 at h
    obtain ⟨g1, ig1, eg1, h⟩ := wr_some h
    refine kAst hx hb hKK hP hD hS 1 rfl ig1 eg1 dX9_rewrite_323 (fun H locs hP hD hS => ?_)
    have hP : va_P D vwCl (W_z cI cM a_z a_z_s a_z_past a_z_keeps a_z_entryKey a_z_entryDefault a_z_held a_z_values a_z_kinds a_z_news g1 z_past z_pasts z_changed z_entries z_keeps z_entryKey z_entryDefault z_counter z_held z_values z_kinds z_news) H := hP
    have hD : va_D _ (W_z cI cM a_z a_z_s a_z_past a_z_keeps a_z_entryKey a_z_entryDefault a_z_held a_z_values a_z_kinds a_z_news g1 z_past z_pasts z_changed z_entries z_keeps z_entryKey z_entryDefault z_counter z_held z_values z_kinds z_news) := hD
    refine lv_iinc (v := y4 + 1) (lv' := [(4, .int (y4 + 1)), (0, .ref a_z), (1, .int y1)]) hx hb dX9_rewrite_324 hl (k := 2) rfl rfl (by decide) rfl (fun ls hl => ?_)
    refine lv_goto (tgt := 165) hx hb dX9_rewrite_327 (by decide) ?_
    exact hk165 H locs g1 z_kinds z_news y1 (y4 + 1) h hP hD hS ls (lv_sub (l' := [(0, .ref a_z), (1, .int y1), (4, .int (y4 + 1))]) hl [1, 2, 0] rfl)
  have F288 : ∀ (k165 : (Nat → Int32) → (Nat → Int32) → (Nat → Int32) → Int32 → Int32 → Option ((Nat → Int32) × (Nat → Int32) × (Nat → Int32))) (hk165 : ∀ (H : Heap) (locs : List Loc) (w_z_s : Nat → Int32) (w_z_kinds : Nat → Int32) (w_z_news : Nat → Int32) (u1 : Int32) (u4 : Int32), k165 w_z_s w_z_kinds w_z_news u1 u4 = some (r_z_s, r_z_kinds, r_z_news) → va_P D vwCl (W_z cI cM a_z a_z_s a_z_past a_z_keeps a_z_entryKey a_z_entryDefault a_z_held a_z_values a_z_kinds a_z_news w_z_s z_past z_pasts z_changed z_entries z_keeps z_entryKey z_entryDefault z_counter z_held z_values w_z_kinds w_z_news) H → va_D (fun q => q ∈ w0.map (·.1)) (W_z cI cM a_z a_z_s a_z_past a_z_keeps a_z_entryKey a_z_entryDefault a_z_held a_z_values a_z_kinds a_z_news w_z_s z_past z_pasts z_changed z_entries z_keeps z_entryKey z_entryDefault z_counter z_held z_values w_z_kinds w_z_news) → va_S (fun q => q ∈ w0.map (·.1)) s.heap H locs → ∀ ls : Array Slot, lv_has ls 6 [(0, .ref a_z), (1, .int u1), (4, .int u4)] → WI p l e rmX9_rewrite s m av below meth c D w0 w1 none H locs 165 ls []), ∀ (H : Heap) (locs : List Loc) (z_s : Nat → Int32) (z_kinds : Nat → Int32) (z_news : Nat → Int32) (y1 : Int32) (y4 : Int32) (s1 : Int32) (s2 : Int32), jX9_rewrite_288 z_entries z_keeps z_entryKey z_entryDefault k165 z_s z_kinds z_news y1 y4 s1 s2 = some (r_z_s, r_z_kinds, r_z_news) → va_P D vwCl (W_z cI cM a_z a_z_s a_z_past a_z_keeps a_z_entryKey a_z_entryDefault a_z_held a_z_values a_z_kinds a_z_news z_s z_past z_pasts z_changed z_entries z_keeps z_entryKey z_entryDefault z_counter z_held z_values z_kinds z_news) H → va_D (fun q => q ∈ (w0).map (·.1)) (W_z cI cM a_z a_z_s a_z_past a_z_keeps a_z_entryKey a_z_entryDefault a_z_held a_z_values a_z_kinds a_z_news z_s z_past z_pasts z_changed z_entries z_keeps z_entryKey z_entryDefault z_counter z_held z_values z_kinds z_news) → va_S (fun q => q ∈ (w0).map (·.1)) s.heap H locs → ∀ ls : Array Slot, lv_has ls 6 [(0, .ref a_z), (1, .int y1), (4, .int y4)] → WI p l e rmX9_rewrite s m av below meth c D w0 w1 none H locs 288 ls [.int s2, .int s1, .ref a_z_s] := by
    intro k165 hk165
    intro H locs z_s z_kinds z_news y1 y4 s1 s2 h hP hD hS ls hl
    unfold jX9_rewrite_288 at h
    obtain ⟨g1, ig1, eg1, h⟩ := wr_some h
    refine kAst hx hb hKK hP hD hS 1 rfl ig1 eg1 dX9_rewrite_288 (fun H locs hP hD hS => ?_)
    have hP : va_P D vwCl (W_z cI cM a_z a_z_s a_z_past a_z_keeps a_z_entryKey a_z_entryDefault a_z_held a_z_values a_z_kinds a_z_news g1 z_past z_pasts z_changed z_entries z_keeps z_entryKey z_entryDefault z_counter z_held z_values z_kinds z_news) H := hP
    have hD : va_D _ (W_z cI cM a_z a_z_s a_z_past a_z_keeps a_z_entryKey a_z_entryDefault a_z_held a_z_values a_z_kinds a_z_news g1 z_past z_pasts z_changed z_entries z_keeps z_entryKey z_entryDefault z_counter z_held z_values z_kinds z_news) := hD
    refine lv_aload_n hx hb dX9_rewrite_289 rfl (lv_at hl 0 rfl) ?_
    refine va_get (D := D) (ci := 9) (v := .ref a_z_s) (C := RX9) (T := TX9) (N := 13) hx hb hts hinX9 hown hKK.1 hP 0 rfl rfl 0 (by decide) lk7 (fun _ h9 => h9) rfl dX9_rewrite_290 ?_
    refine lv_aload_n hx hb dX9_rewrite_293 rfl (lv_at hl 0 rfl) ?_
    refine lv_iload_n hx hb dX9_rewrite_294 rfl (lv_at hl 1 rfl) ?_
    refine lv_bipush (v := 15) hx hb dX9_rewrite_295 (by decide) ?_
    refine lv_iload hx hb dX9_rewrite_297 (lv_at hl 2 rfl) ?_
    refine lv_iadd hx hb dX9_rewrite_299 ?_
    obtain ⟨v2, ev2, h⟩ := bn_some h
    have hs3 : va_P D vwCl (W_z cI cM a_z a_z_s a_z_past a_z_keeps a_z_entryKey a_z_entryDefault a_z_held a_z_values a_z_kinds a_z_news g1 z_past z_pasts z_changed z_entries z_keeps z_entryKey z_entryDefault z_counter z_held z_values z_kinds z_news) _ := hP.sub (ws' := W_z cI cM a_z a_z_s a_z_past a_z_keeps a_z_entryKey a_z_entryDefault a_z_held a_z_values a_z_kinds a_z_news g1 z_past z_pasts z_changed z_entries z_keeps z_entryKey z_entryDefault z_counter z_held z_values z_kinds z_news) [0, 1, 2, 3, 4, 5, 6, 7, 8, 9] rfl
    refine kV (As := [.int y1, .int (15 + y4)]) (rest := [.ref a_z_s]) SS hKK (qX9_at l D cI cM a_z a_z_s a_z_past a_z_keeps a_z_entryKey a_z_entryDefault a_z_held a_z_values a_z_kinds a_z_news g1 z_past z_pasts z_changed z_entries z_keeps z_entryKey z_entryDefault z_counter z_held z_values z_kinds z_news y1 (15 + y4) v2 ev2) cw111 hs3 0 9 rfl rfl rfl hl.1 rfl (Nat.le_of_ble_eq_true rfl) dX9_rewrite_300 ⟨Nat.zero_le _, Nat.zero_le _⟩ ?_
    refine lv_iload hx hb dX9_rewrite_303 (lv_at hl 2 rfl) ?_
    refine lv_aload_n hx hb dX9_rewrite_305 rfl (lv_at hl 0 rfl) ?_
    refine va_get (D := D) (ci := 9) (v := .int z_entries) (C := RX9) (T := TX9) (N := 13) hx hb hts hinX9 hown hKK.1 hP 0 rfl rfl 4 (by decide) lk151 (fun _ h9 => h9) rfl dX9_rewrite_306 ?_
    refine lv_icmp_ge (tgt := 322) hx hb dX9_rewrite_309 (by decide) (fun c4 => ?_) (fun c4 => ?_)
    · have h := ifp h c4
      refine lv_iconst (v := 0) hx hb dX9_rewrite_322 (by decide) ?_
      exact F323 k165 hk165 H locs g1 z_kinds z_news y1 y4 v2 0 h hP hD hS ls (lv_sub (l' := [(0, .ref a_z), (1, .int y1), (4, .int y4)]) hl [0, 1, 2] rfl)
    · have h := ifn h c4
      refine lv_aload_n hx hb dX9_rewrite_312 rfl (lv_at hl 0 rfl) ?_
      refine va_get (D := D) (ci := 9) (v := .ref a_z_entryKey) (C := RX9) (T := TX9) (N := 13) hx hb hts hinX9 hown hKK.1 hP 0 rfl rfl 6 (by decide) lk23 (fun _ h9 => h9) rfl dX9_rewrite_313 ?_
      refine lv_iload hx hb dX9_rewrite_316 (lv_at hl 2 rfl) ?_
      obtain ⟨v5, iv5, ev5, h⟩ := rd_some h
      refine kAld hx hb hKK hP 4 rfl iv5 ev5 dX9_rewrite_318 ?_
      refine lv_goto (tgt := 323) hx hb dX9_rewrite_319 (by decide) ?_
      exact F323 k165 hk165 H locs g1 z_kinds z_news y1 y4 v2 v5 h hP hD hS ls (lv_sub (l' := [(0, .ref a_z), (1, .int y1), (4, .int y4)]) hl [0, 1, 2] rfl)
  have F233 : ∀ (k165 : (Nat → Int32) → (Nat → Int32) → (Nat → Int32) → Int32 → Int32 → Option ((Nat → Int32) × (Nat → Int32) × (Nat → Int32))) (hk165 : ∀ (H : Heap) (locs : List Loc) (w_z_s : Nat → Int32) (w_z_kinds : Nat → Int32) (w_z_news : Nat → Int32) (u1 : Int32) (u4 : Int32), k165 w_z_s w_z_kinds w_z_news u1 u4 = some (r_z_s, r_z_kinds, r_z_news) → va_P D vwCl (W_z cI cM a_z a_z_s a_z_past a_z_keeps a_z_entryKey a_z_entryDefault a_z_held a_z_values a_z_kinds a_z_news w_z_s z_past z_pasts z_changed z_entries z_keeps z_entryKey z_entryDefault z_counter z_held z_values w_z_kinds w_z_news) H → va_D (fun q => q ∈ w0.map (·.1)) (W_z cI cM a_z a_z_s a_z_past a_z_keeps a_z_entryKey a_z_entryDefault a_z_held a_z_values a_z_kinds a_z_news w_z_s z_past z_pasts z_changed z_entries z_keeps z_entryKey z_entryDefault z_counter z_held z_values w_z_kinds w_z_news) → va_S (fun q => q ∈ w0.map (·.1)) s.heap H locs → ∀ ls : Array Slot, lv_has ls 6 [(0, .ref a_z), (1, .int u1), (4, .int u4)] → WI p l e rmX9_rewrite s m av below meth c D w0 w1 none H locs 165 ls []), ∀ (H : Heap) (locs : List Loc) (z_s : Nat → Int32) (z_kinds : Nat → Int32) (z_news : Nat → Int32) (y1 : Int32) (y4 : Int32) (y5 : Int32) (s1 : Int32) (s2 : Int32), jX9_rewrite_233 z_entries z_keeps z_entryKey z_entryDefault k165 z_s z_kinds z_news y1 y4 y5 s1 s2 = some (r_z_s, r_z_kinds, r_z_news) → va_P D vwCl (W_z cI cM a_z a_z_s a_z_past a_z_keeps a_z_entryKey a_z_entryDefault a_z_held a_z_values a_z_kinds a_z_news z_s z_past z_pasts z_changed z_entries z_keeps z_entryKey z_entryDefault z_counter z_held z_values z_kinds z_news) H → va_D (fun q => q ∈ (w0).map (·.1)) (W_z cI cM a_z a_z_s a_z_past a_z_keeps a_z_entryKey a_z_entryDefault a_z_held a_z_values a_z_kinds a_z_news z_s z_past z_pasts z_changed z_entries z_keeps z_entryKey z_entryDefault z_counter z_held z_values z_kinds z_news) → va_S (fun q => q ∈ (w0).map (·.1)) s.heap H locs → ∀ ls : Array Slot, lv_has ls 6 [(0, .ref a_z), (1, .int y1), (4, .int y4), (5, .int y5)] → WI p l e rmX9_rewrite s m av below meth c D w0 w1 none H locs 233 ls [.int s2, .int s1, .ref a_z_s] := by
    intro k165 hk165
    intro H locs z_s z_kinds z_news y1 y4 y5 s1 s2 h hP hD hS ls hl
    unfold jX9_rewrite_233 at h
    obtain ⟨g1, ig1, eg1, h⟩ := wr_some h
    refine kAst hx hb hKK hP hD hS 1 rfl ig1 eg1 dX9_rewrite_233 (fun H locs hP hD hS => ?_)
    have hP : va_P D vwCl (W_z cI cM a_z a_z_s a_z_past a_z_keeps a_z_entryKey a_z_entryDefault a_z_held a_z_values a_z_kinds a_z_news g1 z_past z_pasts z_changed z_entries z_keeps z_entryKey z_entryDefault z_counter z_held z_values z_kinds z_news) H := hP
    have hD : va_D _ (W_z cI cM a_z a_z_s a_z_past a_z_keeps a_z_entryKey a_z_entryDefault a_z_held a_z_values a_z_kinds a_z_news g1 z_past z_pasts z_changed z_entries z_keeps z_entryKey z_entryDefault z_counter z_held z_values z_kinds z_news) := hD
    refine lv_aload_n hx hb dX9_rewrite_234 rfl (lv_at hl 0 rfl) ?_
    refine va_get (D := D) (ci := 9) (v := .ref a_z_s) (C := RX9) (T := TX9) (N := 13) hx hb hts hinX9 hown hKK.1 hP 0 rfl rfl 0 (by decide) lk7 (fun _ h9 => h9) rfl dX9_rewrite_235 ?_
    refine lv_aload_n hx hb dX9_rewrite_238 rfl (lv_at hl 0 rfl) ?_
    refine lv_iload_n hx hb dX9_rewrite_239 rfl (lv_at hl 1 rfl) ?_
    refine lv_bipush (v := 10) hx hb dX9_rewrite_240 (by decide) ?_
    refine lv_iload hx hb dX9_rewrite_242 (lv_at hl 2 rfl) ?_
    refine lv_iadd hx hb dX9_rewrite_244 ?_
    obtain ⟨v2, ev2, h⟩ := bn_some h
    have hs3 : va_P D vwCl (W_z cI cM a_z a_z_s a_z_past a_z_keeps a_z_entryKey a_z_entryDefault a_z_held a_z_values a_z_kinds a_z_news g1 z_past z_pasts z_changed z_entries z_keeps z_entryKey z_entryDefault z_counter z_held z_values z_kinds z_news) _ := hP.sub (ws' := W_z cI cM a_z a_z_s a_z_past a_z_keeps a_z_entryKey a_z_entryDefault a_z_held a_z_values a_z_kinds a_z_news g1 z_past z_pasts z_changed z_entries z_keeps z_entryKey z_entryDefault z_counter z_held z_values z_kinds z_news) [0, 1, 2, 3, 4, 5, 6, 7, 8, 9] rfl
    refine kV (As := [.int y1, .int (10 + y4)]) (rest := [.ref a_z_s]) SS hKK (qX9_at l D cI cM a_z a_z_s a_z_past a_z_keeps a_z_entryKey a_z_entryDefault a_z_held a_z_values a_z_kinds a_z_news g1 z_past z_pasts z_changed z_entries z_keeps z_entryKey z_entryDefault z_counter z_held z_values z_kinds z_news y1 (10 + y4) v2 ev2) cw111 hs3 0 9 rfl rfl rfl hl.1 rfl (Nat.le_of_ble_eq_true rfl) dX9_rewrite_245 ⟨Nat.zero_le _, Nat.zero_le _⟩ ?_
    refine lv_iload hx hb dX9_rewrite_248 (lv_at hl 3 rfl) ?_
    refine lv_if_eq (tgt := 268) hx hb dX9_rewrite_250 (by decide) (fun c4 => ?_) (fun c4 => ?_)
    · have h := ifp h c4
      refine lv_iload hx hb dX9_rewrite_268 (lv_at hl 2 rfl) ?_
      refine lv_aload_n hx hb dX9_rewrite_270 rfl (lv_at hl 0 rfl) ?_
      refine va_get (D := D) (ci := 9) (v := .int z_entries) (C := RX9) (T := TX9) (N := 13) hx hb hts hinX9 hown hKK.1 hP 0 rfl rfl 4 (by decide) lk151 (fun _ h9 => h9) rfl dX9_rewrite_271 ?_
      refine lv_icmp_ge (tgt := 287) hx hb dX9_rewrite_274 (by decide) (fun c5 => ?_) (fun c5 => ?_)
      · have h := ifp h c5
        refine lv_iconst (v := 0) hx hb dX9_rewrite_287 (by decide) ?_
        exact F288 k165 hk165 H locs g1 z_kinds z_news y1 y4 v2 0 h hP hD hS ls (lv_sub (l' := [(0, .ref a_z), (1, .int y1), (4, .int y4)]) hl [0, 1, 2] rfl)
      · have h := ifn h c5
        refine lv_aload_n hx hb dX9_rewrite_277 rfl (lv_at hl 0 rfl) ?_
        refine va_get (D := D) (ci := 9) (v := .ref a_z_entryDefault) (C := RX9) (T := TX9) (N := 13) hx hb hts hinX9 hown hKK.1 hP 0 rfl rfl 7 (by decide) lk26 (fun _ h9 => h9) rfl dX9_rewrite_278 ?_
        refine lv_iload hx hb dX9_rewrite_281 (lv_at hl 2 rfl) ?_
        obtain ⟨v6, iv6, ev6, h⟩ := rd_some h
        refine kAld hx hb hKK hP 5 rfl iv6 ev6 dX9_rewrite_283 ?_
        refine lv_goto (tgt := 288) hx hb dX9_rewrite_284 (by decide) ?_
        exact F288 k165 hk165 H locs g1 z_kinds z_news y1 y4 v2 v6 h hP hD hS ls (lv_sub (l' := [(0, .ref a_z), (1, .int y1), (4, .int y4)]) hl [0, 1, 2] rfl)
    · have h := ifn h c4
      refine lv_aload_n hx hb dX9_rewrite_253 rfl (lv_at hl 0 rfl) ?_
      refine va_get (D := D) (ci := 9) (v := .ref a_z_news) (C := RX9) (T := TX9) (N := 13) hx hb hts hinX9 hown hKK.1 hP 0 rfl rfl 12 (by decide) lk38 (fun _ h9 => h9) rfl dX9_rewrite_254 ?_
      refine lv_aload_n hx hb dX9_rewrite_257 rfl (lv_at hl 0 rfl) ?_
      refine va_get (D := D) (ci := 9) (v := .ref a_z_keeps) (C := RX9) (T := TX9) (N := 13) hx hb hts hinX9 hown hKK.1 hP 0 rfl rfl 5 (by decide) lk20 (fun _ h9 => h9) rfl dX9_rewrite_258 ?_
      refine lv_iload hx hb dX9_rewrite_261 (lv_at hl 2 rfl) ?_
      obtain ⟨v7, iv7, ev7, h⟩ := rd_some h
      refine kAld hx hb hKK hP 3 rfl iv7 ev7 dX9_rewrite_263 ?_
      obtain ⟨v8, iv8, ev8, h⟩ := rd_some h
      refine kAld hx hb hKK hP 9 rfl iv8 ev8 dX9_rewrite_264 ?_
      refine lv_goto (tgt := 288) hx hb dX9_rewrite_265 (by decide) ?_
      exact F288 k165 hk165 H locs g1 z_kinds z_news y1 y4 v2 v8 h hP hD hS ls (lv_sub (l' := [(0, .ref a_z), (1, .int y1), (4, .int y4)]) hl [0, 1, 2] rfl)
  have F197 : ∀ (k165 : (Nat → Int32) → (Nat → Int32) → (Nat → Int32) → Int32 → Int32 → Option ((Nat → Int32) × (Nat → Int32) × (Nat → Int32))) (hk165 : ∀ (H : Heap) (locs : List Loc) (w_z_s : Nat → Int32) (w_z_kinds : Nat → Int32) (w_z_news : Nat → Int32) (u1 : Int32) (u4 : Int32), k165 w_z_s w_z_kinds w_z_news u1 u4 = some (r_z_s, r_z_kinds, r_z_news) → va_P D vwCl (W_z cI cM a_z a_z_s a_z_past a_z_keeps a_z_entryKey a_z_entryDefault a_z_held a_z_values a_z_kinds a_z_news w_z_s z_past z_pasts z_changed z_entries z_keeps z_entryKey z_entryDefault z_counter z_held z_values w_z_kinds w_z_news) H → va_D (fun q => q ∈ w0.map (·.1)) (W_z cI cM a_z a_z_s a_z_past a_z_keeps a_z_entryKey a_z_entryDefault a_z_held a_z_values a_z_kinds a_z_news w_z_s z_past z_pasts z_changed z_entries z_keeps z_entryKey z_entryDefault z_counter z_held z_values w_z_kinds w_z_news) → va_S (fun q => q ∈ w0.map (·.1)) s.heap H locs → ∀ ls : Array Slot, lv_has ls 6 [(0, .ref a_z), (1, .int u1), (4, .int u4)] → WI p l e rmX9_rewrite s m av below meth c D w0 w1 none H locs 165 ls []), ∀ (H : Heap) (locs : List Loc) (z_s : Nat → Int32) (z_kinds : Nat → Int32) (z_news : Nat → Int32) (y1 : Int32) (y4 : Int32) (s0 : Int32), jX9_rewrite_197 z_entries z_keeps z_entryKey z_entryDefault k165 z_s z_kinds z_news y1 y4 s0 = some (r_z_s, r_z_kinds, r_z_news) → va_P D vwCl (W_z cI cM a_z a_z_s a_z_past a_z_keeps a_z_entryKey a_z_entryDefault a_z_held a_z_values a_z_kinds a_z_news z_s z_past z_pasts z_changed z_entries z_keeps z_entryKey z_entryDefault z_counter z_held z_values z_kinds z_news) H → va_D (fun q => q ∈ (w0).map (·.1)) (W_z cI cM a_z a_z_s a_z_past a_z_keeps a_z_entryKey a_z_entryDefault a_z_held a_z_values a_z_kinds a_z_news z_s z_past z_pasts z_changed z_entries z_keeps z_entryKey z_entryDefault z_counter z_held z_values z_kinds z_news) → va_S (fun q => q ∈ (w0).map (·.1)) s.heap H locs → ∀ ls : Array Slot, lv_has ls 6 [(0, .ref a_z), (1, .int y1), (4, .int y4)] → WI p l e rmX9_rewrite s m av below meth c D w0 w1 none H locs 197 ls [.int s0] := by
    intro k165 hk165
    intro H locs z_s z_kinds z_news y1 y4 s0 h hP hD hS ls hl
    unfold jX9_rewrite_197 at h
    refine lv_istore (lv' := [(5, .int s0), (0, .ref a_z), (1, .int y1), (4, .int y4)]) hx hb dX9_rewrite_197 hl (by decide) rfl (fun ls hl => ?_)
    refine lv_aload_n hx hb dX9_rewrite_199 rfl (lv_at hl 1 rfl) ?_
    refine va_get (D := D) (ci := 9) (v := .ref a_z_s) (C := RX9) (T := TX9) (N := 13) hx hb hts hinX9 hown hKK.1 hP 0 rfl rfl 0 (by decide) lk7 (fun _ h9 => h9) rfl dX9_rewrite_200 ?_
    refine lv_aload_n hx hb dX9_rewrite_203 rfl (lv_at hl 1 rfl) ?_
    refine lv_iload_n hx hb dX9_rewrite_204 rfl (lv_at hl 2 rfl) ?_
    refine lv_iconst (v := 5) hx hb dX9_rewrite_205 (by decide) ?_
    refine lv_iload hx hb dX9_rewrite_206 (lv_at hl 3 rfl) ?_
    refine lv_iadd hx hb dX9_rewrite_208 ?_
    obtain ⟨v1, ev1, h⟩ := bn_some h
    have hs2 : va_P D vwCl (W_z cI cM a_z a_z_s a_z_past a_z_keeps a_z_entryKey a_z_entryDefault a_z_held a_z_values a_z_kinds a_z_news z_s z_past z_pasts z_changed z_entries z_keeps z_entryKey z_entryDefault z_counter z_held z_values z_kinds z_news) _ := hP.sub (ws' := W_z cI cM a_z a_z_s a_z_past a_z_keeps a_z_entryKey a_z_entryDefault a_z_held a_z_values a_z_kinds a_z_news z_s z_past z_pasts z_changed z_entries z_keeps z_entryKey z_entryDefault z_counter z_held z_values z_kinds z_news) [0, 1, 2, 3, 4, 5, 6, 7, 8, 9] rfl
    refine kV (As := [.int y1, .int (5 + y4)]) (rest := [.ref a_z_s]) SS hKK (qX9_at l D cI cM a_z a_z_s a_z_past a_z_keeps a_z_entryKey a_z_entryDefault a_z_held a_z_values a_z_kinds a_z_news z_s z_past z_pasts z_changed z_entries z_keeps z_entryKey z_entryDefault z_counter z_held z_values z_kinds z_news y1 (5 + y4) v1 ev1) cw111 hs2 0 9 rfl rfl rfl hl.1 rfl (Nat.le_of_ble_eq_true rfl) dX9_rewrite_209 ⟨Nat.zero_le _, Nat.zero_le _⟩ ?_
    refine lv_iload hx hb dX9_rewrite_212 (lv_at hl 0 rfl) ?_
    refine lv_if_eq (tgt := 232) hx hb dX9_rewrite_214 (by decide) (fun c3 => ?_) (fun c3 => ?_)
    · have h := ifp h c3
      refine lv_iconst (v := 0) hx hb dX9_rewrite_232 (by decide) ?_
      exact F233 k165 hk165 H locs z_s z_kinds z_news y1 y4 s0 v1 0 h hP hD hS ls (lv_sub (l' := [(0, .ref a_z), (1, .int y1), (4, .int y4), (5, .int s0)]) hl [1, 2, 3, 0] rfl)
    · have h := ifn h c3
      refine lv_aload_n hx hb dX9_rewrite_217 rfl (lv_at hl 1 rfl) ?_
      refine va_get (D := D) (ci := 9) (v := .ref a_z_kinds) (C := RX9) (T := TX9) (N := 13) hx hb hts hinX9 hown hKK.1 hP 0 rfl rfl 11 (by decide) lk35 (fun _ h9 => h9) rfl dX9_rewrite_218 ?_
      refine lv_aload_n hx hb dX9_rewrite_221 rfl (lv_at hl 1 rfl) ?_
      refine va_get (D := D) (ci := 9) (v := .ref a_z_keeps) (C := RX9) (T := TX9) (N := 13) hx hb hts hinX9 hown hKK.1 hP 0 rfl rfl 5 (by decide) lk20 (fun _ h9 => h9) rfl dX9_rewrite_222 ?_
      refine lv_iload hx hb dX9_rewrite_225 (lv_at hl 3 rfl) ?_
      obtain ⟨v4, iv4, ev4, h⟩ := rd_some h
      refine kAld hx hb hKK hP 3 rfl iv4 ev4 dX9_rewrite_227 ?_
      obtain ⟨v5, iv5, ev5, h⟩ := rd_some h
      refine kAld hx hb hKK hP 8 rfl iv5 ev5 dX9_rewrite_228 ?_
      refine lv_goto (tgt := 233) hx hb dX9_rewrite_229 (by decide) ?_
      exact F233 k165 hk165 H locs z_s z_kinds z_news y1 y4 s0 v1 v5 h hP hD hS ls (lv_sub (l' := [(0, .ref a_z), (1, .int y1), (4, .int y4), (5, .int s0)]) hl [1, 2, 3, 0] rfl)
  have F196 : ∀ (k165 : (Nat → Int32) → (Nat → Int32) → (Nat → Int32) → Int32 → Int32 → Option ((Nat → Int32) × (Nat → Int32) × (Nat → Int32))) (hk165 : ∀ (H : Heap) (locs : List Loc) (w_z_s : Nat → Int32) (w_z_kinds : Nat → Int32) (w_z_news : Nat → Int32) (u1 : Int32) (u4 : Int32), k165 w_z_s w_z_kinds w_z_news u1 u4 = some (r_z_s, r_z_kinds, r_z_news) → va_P D vwCl (W_z cI cM a_z a_z_s a_z_past a_z_keeps a_z_entryKey a_z_entryDefault a_z_held a_z_values a_z_kinds a_z_news w_z_s z_past z_pasts z_changed z_entries z_keeps z_entryKey z_entryDefault z_counter z_held z_values w_z_kinds w_z_news) H → va_D (fun q => q ∈ w0.map (·.1)) (W_z cI cM a_z a_z_s a_z_past a_z_keeps a_z_entryKey a_z_entryDefault a_z_held a_z_values a_z_kinds a_z_news w_z_s z_past z_pasts z_changed z_entries z_keeps z_entryKey z_entryDefault z_counter z_held z_values w_z_kinds w_z_news) → va_S (fun q => q ∈ w0.map (·.1)) s.heap H locs → ∀ ls : Array Slot, lv_has ls 6 [(0, .ref a_z), (1, .int u1), (4, .int u4)] → WI p l e rmX9_rewrite s m av below meth c D w0 w1 none H locs 165 ls []), ∀ (H : Heap) (locs : List Loc) (z_s : Nat → Int32) (z_kinds : Nat → Int32) (z_news : Nat → Int32) (y1 : Int32) (y4 : Int32), jX9_rewrite_196 z_entries z_keeps z_entryKey z_entryDefault k165 z_s z_kinds z_news y1 y4 = some (r_z_s, r_z_kinds, r_z_news) → va_P D vwCl (W_z cI cM a_z a_z_s a_z_past a_z_keeps a_z_entryKey a_z_entryDefault a_z_held a_z_values a_z_kinds a_z_news z_s z_past z_pasts z_changed z_entries z_keeps z_entryKey z_entryDefault z_counter z_held z_values z_kinds z_news) H → va_D (fun q => q ∈ (w0).map (·.1)) (W_z cI cM a_z a_z_s a_z_past a_z_keeps a_z_entryKey a_z_entryDefault a_z_held a_z_values a_z_kinds a_z_news z_s z_past z_pasts z_changed z_entries z_keeps z_entryKey z_entryDefault z_counter z_held z_values z_kinds z_news) → va_S (fun q => q ∈ (w0).map (·.1)) s.heap H locs → ∀ ls : Array Slot, lv_has ls 6 [(0, .ref a_z), (1, .int y1), (4, .int y4)] → WI p l e rmX9_rewrite s m av below meth c D w0 w1 none H locs 196 ls [] := by
    intro k165 hk165
    intro H locs z_s z_kinds z_news y1 y4 h hP hD hS ls hl
    unfold jX9_rewrite_196 at h
    refine lv_iconst (v := 0) hx hb dX9_rewrite_196 (by decide) ?_
    exact F197 k165 hk165 H locs z_s z_kinds z_news y1 y4 0 h hP hD hS ls (lv_sub (l' := [(0, .ref a_z), (1, .int y1), (4, .int y4)]) hl [0, 1, 2] rfl)
  have F165 : ∀ (n : Nat) (H : Heap) (locs : List Loc) (z_s : Nat → Int32) (z_kinds : Nat → Int32) (z_news : Nat → Int32) (y1 : Int32) (y4 : Int32), lX9_rewrite_165 z_entries z_keeps z_entryKey z_entryDefault n z_s z_kinds z_news y1 y4 = some (r_z_s, r_z_kinds, r_z_news) → va_P D vwCl (W_z cI cM a_z a_z_s a_z_past a_z_keeps a_z_entryKey a_z_entryDefault a_z_held a_z_values a_z_kinds a_z_news z_s z_past z_pasts z_changed z_entries z_keeps z_entryKey z_entryDefault z_counter z_held z_values z_kinds z_news) H → va_D (fun q => q ∈ (w0).map (·.1)) (W_z cI cM a_z a_z_s a_z_past a_z_keeps a_z_entryKey a_z_entryDefault a_z_held a_z_values a_z_kinds a_z_news z_s z_past z_pasts z_changed z_entries z_keeps z_entryKey z_entryDefault z_counter z_held z_values z_kinds z_news) → va_S (fun q => q ∈ (w0).map (·.1)) s.heap H locs → ∀ ls : Array Slot, lv_has ls 6 [(0, .ref a_z), (1, .int y1), (4, .int y4)] → WI p l e rmX9_rewrite s m av below meth c D w0 w1 none H locs 165 ls [] := by
    intro n
    induction n with
    | zero => intro H locs z_s z_kinds z_news y1 y4 h; exact no_some h
    | succ n ih =>
      intro H locs z_s z_kinds z_news y1 y4 h hP hD hS ls hl
      rw [lX9_rewrite_165_s] at h
      refine lv_iload hx hb dX9_rewrite_165 (lv_at hl 2 rfl) ?_
      refine lv_iconst (v := 5) hx hb dX9_rewrite_167 (by decide) ?_
      refine lv_icmp_ge (tgt := 330) hx hb dX9_rewrite_168 (by decide) (fun c1 => ?_) (fun c1 => ?_)
      · have h := ifp h c1
        simp only [Option.some.injEq, Prod.mk.injEq] at h
        obtain ⟨e0, e1, e2⟩ := h
        exact kRetV hx hb hr hlk (by rw [← hw1, ← e0, ← e1, ← e2]; exact hP) hS dX9_rewrite_330
      · have h := ifn h c1
        refine lv_iload hx hb dX9_rewrite_171 (lv_at hl 2 rfl) ?_
        refine lv_aload_n hx hb dX9_rewrite_173 rfl (lv_at hl 0 rfl) ?_
        refine va_get (D := D) (ci := 9) (v := .int z_entries) (C := RX9) (T := TX9) (N := 13) hx hb hts hinX9 hown hKK.1 hP 0 rfl rfl 4 (by decide) lk151 (fun _ h9 => h9) rfl dX9_rewrite_174 ?_
        refine lv_icmp_ge (tgt := 196) hx hb dX9_rewrite_177 (by decide) (fun c2 => ?_) (fun c2 => ?_)
        · have h := ifp h c2
          exact F196 (fun w_z_s w_z_kinds w_z_news u1 u4 => lX9_rewrite_165 z_entries z_keeps z_entryKey z_entryDefault n w_z_s w_z_kinds w_z_news u1 u4) (fun H locs w_z_s w_z_kinds w_z_news u1 u4 h hP hD hS ls hl => ih H locs w_z_s w_z_kinds w_z_news u1 u4 h hP hD hS ls hl) H locs z_s z_kinds z_news y1 y4 h hP hD hS ls (lv_sub (l' := [(0, .ref a_z), (1, .int y1), (4, .int y4)]) hl [0, 1, 2] rfl)
        · have h := ifn h c2
          refine lv_aload_n hx hb dX9_rewrite_180 rfl (lv_at hl 0 rfl) ?_
          refine va_get (D := D) (ci := 9) (v := .ref a_z_keeps) (C := RX9) (T := TX9) (N := 13) hx hb hts hinX9 hown hKK.1 hP 0 rfl rfl 5 (by decide) lk20 (fun _ h9 => h9) rfl dX9_rewrite_181 ?_
          refine lv_iload hx hb dX9_rewrite_184 (lv_at hl 2 rfl) ?_
          obtain ⟨v3, iv3, ev3, h⟩ := rd_some h
          refine kAld hx hb hKK hP 3 rfl iv3 ev3 dX9_rewrite_186 ?_
          refine lv_bipush (v := (-9)) hx hb dX9_rewrite_187 (by decide) ?_
          refine lv_icmp_eq (tgt := 196) hx hb dX9_rewrite_189 (by decide) (fun c4 => ?_) (fun c4 => ?_)
          · have h := ifp h c4
            exact F196 (fun w_z_s w_z_kinds w_z_news u1 u4 => lX9_rewrite_165 z_entries z_keeps z_entryKey z_entryDefault n w_z_s w_z_kinds w_z_news u1 u4) (fun H locs w_z_s w_z_kinds w_z_news u1 u4 h hP hD hS ls hl => ih H locs w_z_s w_z_kinds w_z_news u1 u4 h hP hD hS ls hl) H locs z_s z_kinds z_news y1 y4 h hP hD hS ls (lv_sub (l' := [(0, .ref a_z), (1, .int y1), (4, .int y4)]) hl [0, 1, 2] rfl)
          · have h := ifn h c4
            refine lv_iconst (v := 1) hx hb dX9_rewrite_192 (by decide) ?_
            refine lv_goto (tgt := 197) hx hb dX9_rewrite_193 (by decide) ?_
            exact F197 (fun w_z_s w_z_kinds w_z_news u1 u4 => lX9_rewrite_165 z_entries z_keeps z_entryKey z_entryDefault n w_z_s w_z_kinds w_z_news u1 u4) (fun H locs w_z_s w_z_kinds w_z_news u1 u4 h hP hD hS ls hl => ih H locs w_z_s w_z_kinds w_z_news u1 u4 h hP hD hS ls hl) H locs z_s z_kinds z_news y1 y4 1 h hP hD hS ls (lv_sub (l' := [(0, .ref a_z), (1, .int y1), (4, .int y4)]) hl [0, 1, 2] rfl)
  have F21 : ∀ (n : Nat) (H : Heap) (locs : List Loc) (z_s : Nat → Int32) (z_kinds : Nat → Int32) (z_news : Nat → Int32) (y1 : Int32) (y2 : Int32) (y3 : Int32) (y4 : Int32), lX9_rewrite_21 z_entries z_keeps z_entryKey z_entryDefault n z_s z_kinds z_news y1 y2 y3 y4 = some (r_z_s, r_z_kinds, r_z_news) → va_P D vwCl (W_z cI cM a_z a_z_s a_z_past a_z_keeps a_z_entryKey a_z_entryDefault a_z_held a_z_values a_z_kinds a_z_news z_s z_past z_pasts z_changed z_entries z_keeps z_entryKey z_entryDefault z_counter z_held z_values z_kinds z_news) H → va_D (fun q => q ∈ (w0).map (·.1)) (W_z cI cM a_z a_z_s a_z_past a_z_keeps a_z_entryKey a_z_entryDefault a_z_held a_z_values a_z_kinds a_z_news z_s z_past z_pasts z_changed z_entries z_keeps z_entryKey z_entryDefault z_counter z_held z_values z_kinds z_news) → va_S (fun q => q ∈ (w0).map (·.1)) s.heap H locs → ∀ ls : Array Slot, lv_has ls 6 [(0, .ref a_z), (1, .int y1), (2, .int y2), (3, .int y3), (4, .int y4)] → WI p l e rmX9_rewrite s m av below meth c D w0 w1 none H locs 21 ls [] := by
    intro n
    induction n with
    | zero => intro H locs z_s z_kinds z_news y1 y2 y3 y4 h; exact no_some h
    | succ n ih =>
      intro H locs z_s z_kinds z_news y1 y2 y3 y4 h hP hD hS ls hl
      rw [lX9_rewrite_21_s] at h
      refine lv_iload hx hb dX9_rewrite_21 (lv_at hl 4 rfl) ?_
      refine lv_iload_n hx hb dX9_rewrite_23 rfl (lv_at hl 3 rfl) ?_
      refine lv_icmp_ge (tgt := 147) hx hb dX9_rewrite_24 (by decide) (fun c1 => ?_) (fun c1 => ?_)
      · have h := ifp h c1
        refine lv_aload_n hx hb dX9_rewrite_147 rfl (lv_at hl 0 rfl) ?_
        refine va_get (D := D) (ci := 9) (v := .ref a_z_s) (C := RX9) (T := TX9) (N := 13) hx hb hts hinX9 hown hKK.1 hP 0 rfl rfl 0 (by decide) lk7 (fun _ h9 => h9) rfl dX9_rewrite_148 ?_
        refine lv_aload_n hx hb dX9_rewrite_151 rfl (lv_at hl 0 rfl) ?_
        refine lv_iload_n hx hb dX9_rewrite_152 rfl (lv_at hl 1 rfl) ?_
        refine lv_iconst (v := 4) hx hb dX9_rewrite_153 (by decide) ?_
        obtain ⟨v2, ev2, h⟩ := bn_some h
        have hs3 : va_P D vwCl (W_z cI cM a_z a_z_s a_z_past a_z_keeps a_z_entryKey a_z_entryDefault a_z_held a_z_values a_z_kinds a_z_news z_s z_past z_pasts z_changed z_entries z_keeps z_entryKey z_entryDefault z_counter z_held z_values z_kinds z_news) _ := hP.sub (ws' := W_z cI cM a_z a_z_s a_z_past a_z_keeps a_z_entryKey a_z_entryDefault a_z_held a_z_values a_z_kinds a_z_news z_s z_past z_pasts z_changed z_entries z_keeps z_entryKey z_entryDefault z_counter z_held z_values z_kinds z_news) [0, 1, 2, 3, 4, 5, 6, 7, 8, 9] rfl
        refine kV (As := [.int y1, .int 4]) (rest := [.ref a_z_s]) SS hKK (qX9_at l D cI cM a_z a_z_s a_z_past a_z_keeps a_z_entryKey a_z_entryDefault a_z_held a_z_values a_z_kinds a_z_news z_s z_past z_pasts z_changed z_entries z_keeps z_entryKey z_entryDefault z_counter z_held z_values z_kinds z_news y1 4 v2 ev2) cw111 hs3 0 9 rfl rfl rfl hl.1 rfl (Nat.le_of_ble_eq_true rfl) dX9_rewrite_154 ⟨Nat.zero_le _, Nat.zero_le _⟩ ?_
        refine lv_aload_n hx hb dX9_rewrite_157 rfl (lv_at hl 0 rfl) ?_
        refine va_get (D := D) (ci := 9) (v := .int z_entries) (C := RX9) (T := TX9) (N := 13) hx hb hts hinX9 hown hKK.1 hP 0 rfl rfl 4 (by decide) lk151 (fun _ h9 => h9) rfl dX9_rewrite_158 ?_
        obtain ⟨g4, ig4, eg4, h⟩ := wr_some h
        refine kAst hx hb hKK hP hD hS 1 rfl ig4 eg4 dX9_rewrite_161 (fun H locs hP hD hS => ?_)
        have hP : va_P D vwCl (W_z cI cM a_z a_z_s a_z_past a_z_keeps a_z_entryKey a_z_entryDefault a_z_held a_z_values a_z_kinds a_z_news g4 z_past z_pasts z_changed z_entries z_keeps z_entryKey z_entryDefault z_counter z_held z_values z_kinds z_news) H := hP
        have hD : va_D _ (W_z cI cM a_z a_z_s a_z_past a_z_keeps a_z_entryKey a_z_entryDefault a_z_held a_z_values a_z_kinds a_z_news g4 z_past z_pasts z_changed z_entries z_keeps z_entryKey z_entryDefault z_counter z_held z_values z_kinds z_news) := hD
        refine lv_iconst (v := 0) hx hb dX9_rewrite_162 (by decide) ?_
        refine lv_istore (lv' := [(4, .int 0), (0, .ref a_z), (1, .int y1), (2, .int y2), (3, .int y3)]) hx hb dX9_rewrite_163 hl (by decide) rfl (fun ls hl => ?_)
        exact F165 5000 H locs g4 z_kinds z_news y1 0 h hP hD hS ls (lv_sub (l' := [(0, .ref a_z), (1, .int y1), (4, .int 0)]) hl [1, 2, 0] rfl)
      · have h := ifn h c1
        refine lv_aload_n hx hb dX9_rewrite_27 rfl (lv_at hl 0 rfl) ?_
        refine va_get (D := D) (ci := 9) (v := .ref a_z_kinds) (C := RX9) (T := TX9) (N := 13) hx hb hts hinX9 hown hKK.1 hP 0 rfl rfl 11 (by decide) lk35 (fun _ h9 => h9) rfl dX9_rewrite_28 ?_
        refine lv_iload hx hb dX9_rewrite_31 (lv_at hl 4 rfl) ?_
        refine lv_aload_n hx hb dX9_rewrite_33 rfl (lv_at hl 0 rfl) ?_
        refine lv_iload_n hx hb dX9_rewrite_34 rfl (lv_at hl 1 rfl) ?_
        refine lv_iload hx hb dX9_rewrite_35 (lv_at hl 4 rfl) ?_
        obtain ⟨v5, ev5, h⟩ := bn_some h
        have hs6 : va_P D vwCl (W_z cI cM a_z a_z_s a_z_past a_z_keeps a_z_entryKey a_z_entryDefault a_z_held a_z_values a_z_kinds a_z_news z_s z_past z_pasts z_changed z_entries z_keeps z_entryKey z_entryDefault z_counter z_held z_values z_kinds z_news) _ := hP.sub (ws' := W_z cI cM a_z a_z_s a_z_past a_z_keeps a_z_entryKey a_z_entryDefault a_z_held a_z_values a_z_kinds a_z_news z_s z_past z_pasts z_changed z_entries z_keeps z_entryKey z_entryDefault z_counter z_held z_values z_kinds z_news) [0, 1, 2, 3, 4, 5, 6, 7, 8, 9] rfl
        refine kV (As := [.int y1, .int y4]) (rest := [.int y4, .ref a_z_kinds]) SS hKK (qX9_kindOf l D cI cM a_z a_z_s a_z_past a_z_keeps a_z_entryKey a_z_entryDefault a_z_held a_z_values a_z_kinds a_z_news z_s z_past z_pasts z_changed z_entries z_keeps z_entryKey z_entryDefault z_counter z_held z_values z_kinds z_news y1 y4 v5 ev5) cw169 hs6 0 9 rfl rfl rfl hl.1 rfl (Nat.le_of_ble_eq_true rfl) dX9_rewrite_37 ⟨Nat.zero_le _, Nat.zero_le _⟩ ?_
        obtain ⟨g7, ig7, eg7, h⟩ := wr_some h
        refine kAst hx hb hKK hP hD hS 8 rfl ig7 eg7 dX9_rewrite_40 (fun H locs hP hD hS => ?_)
        have hP : va_P D vwCl (W_z cI cM a_z a_z_s a_z_past a_z_keeps a_z_entryKey a_z_entryDefault a_z_held a_z_values a_z_kinds a_z_news z_s z_past z_pasts z_changed z_entries z_keeps z_entryKey z_entryDefault z_counter z_held z_values g7 z_news) H := hP
        have hD : va_D _ (W_z cI cM a_z a_z_s a_z_past a_z_keeps a_z_entryKey a_z_entryDefault a_z_held a_z_values a_z_kinds a_z_news z_s z_past z_pasts z_changed z_entries z_keeps z_entryKey z_entryDefault z_counter z_held z_values g7 z_news) := hD
        refine lv_aload_n hx hb dX9_rewrite_41 rfl (lv_at hl 0 rfl) ?_
        refine va_get (D := D) (ci := 9) (v := .ref a_z_news) (C := RX9) (T := TX9) (N := 13) hx hb hts hinX9 hown hKK.1 hP 0 rfl rfl 12 (by decide) lk38 (fun _ h9 => h9) rfl dX9_rewrite_42 ?_
        refine lv_iload hx hb dX9_rewrite_45 (lv_at hl 4 rfl) ?_
        refine lv_aload_n hx hb dX9_rewrite_47 rfl (lv_at hl 0 rfl) ?_
        refine va_get (D := D) (ci := 9) (v := .ref a_z_s) (C := RX9) (T := TX9) (N := 13) hx hb hts hinX9 hown hKK.1 hP 0 rfl rfl 0 (by decide) lk7 (fun _ h9 => h9) rfl dX9_rewrite_48 ?_
        refine lv_aload_n hx hb dX9_rewrite_51 rfl (lv_at hl 0 rfl) ?_
        refine lv_iload_n hx hb dX9_rewrite_52 rfl (lv_at hl 1 rfl) ?_
        refine lv_bipush (v := 10) hx hb dX9_rewrite_53 (by decide) ?_
        refine lv_iload hx hb dX9_rewrite_55 (lv_at hl 4 rfl) ?_
        refine lv_iadd hx hb dX9_rewrite_57 ?_
        obtain ⟨v8, ev8, h⟩ := bn_some h
        have hs9 : va_P D vwCl (W_z cI cM a_z a_z_s a_z_past a_z_keeps a_z_entryKey a_z_entryDefault a_z_held a_z_values a_z_kinds a_z_news z_s z_past z_pasts z_changed z_entries z_keeps z_entryKey z_entryDefault z_counter z_held z_values g7 z_news) _ := hP.sub (ws' := W_z cI cM a_z a_z_s a_z_past a_z_keeps a_z_entryKey a_z_entryDefault a_z_held a_z_values a_z_kinds a_z_news z_s z_past z_pasts z_changed z_entries z_keeps z_entryKey z_entryDefault z_counter z_held z_values g7 z_news) [0, 1, 2, 3, 4, 5, 6, 7, 8, 9] rfl
        refine kV (As := [.int y1, .int (10 + y4)]) (rest := [.ref a_z_s, .int y4, .ref a_z_news]) SS hKK (qX9_at l D cI cM a_z a_z_s a_z_past a_z_keeps a_z_entryKey a_z_entryDefault a_z_held a_z_values a_z_kinds a_z_news z_s z_past z_pasts z_changed z_entries z_keeps z_entryKey z_entryDefault z_counter z_held z_values g7 z_news y1 (10 + y4) v8 ev8) cw111 hs9 0 9 rfl rfl rfl hl.1 rfl (Nat.le_of_ble_eq_true rfl) dX9_rewrite_58 ⟨Nat.zero_le _, Nat.zero_le _⟩ ?_
        obtain ⟨v10, iv10, ev10, h⟩ := rd_some h
        refine kAld hx hb hKK hP 1 rfl iv10 ev10 dX9_rewrite_61 ?_
        obtain ⟨g11, ig11, eg11, h⟩ := wr_some h
        refine kAst hx hb hKK hP hD hS 9 rfl ig11 eg11 dX9_rewrite_62 (fun H locs hP hD hS => ?_)
        have hP : va_P D vwCl (W_z cI cM a_z a_z_s a_z_past a_z_keeps a_z_entryKey a_z_entryDefault a_z_held a_z_values a_z_kinds a_z_news z_s z_past z_pasts z_changed z_entries z_keeps z_entryKey z_entryDefault z_counter z_held z_values g7 g11) H := hP
        have hD : va_D _ (W_z cI cM a_z a_z_s a_z_past a_z_keeps a_z_entryKey a_z_entryDefault a_z_held a_z_values a_z_kinds a_z_news z_s z_past z_pasts z_changed z_entries z_keeps z_entryKey z_entryDefault z_counter z_held z_values g7 g11) := hD
        refine lv_iload_n hx hb dX9_rewrite_63 rfl (lv_at hl 2 rfl) ?_
        refine lv_iload hx hb dX9_rewrite_64 (lv_at hl 4 rfl) ?_
        obtain ⟨v12, ev12, h⟩ := bn_some h
        refine kS (As := [.int y2, .int y4]) (rest := []) SS hKK (qX9_has l D cI cM y2 y4 v12 ev12) cw48 va_P_nil rfl hl.1 rfl (Nat.le_of_ble_eq_true rfl) dX9_rewrite_66 ⟨Nat.zero_le _, Nat.zero_le _⟩ ?_
        refine lv_if_eq (tgt := 141) hx hb dX9_rewrite_69 (by decide) (fun c13 => ?_) (fun c13 => ?_)
        · have h := ifp h c13
          refine lv_iinc (v := y4 + 1) (lv' := [(4, .int (y4 + 1)), (0, .ref a_z), (1, .int y1), (2, .int y2), (3, .int y3)]) hx hb dX9_rewrite_141 hl (k := 4) rfl rfl (by decide) rfl (fun ls hl => ?_)
          refine lv_goto (tgt := 21) hx hb dX9_rewrite_144 (by decide) ?_
          exact ih H locs z_s g7 g11 y1 y2 y3 (y4 + 1) h hP hD hS ls (lv_sub (l' := [(0, .ref a_z), (1, .int y1), (2, .int y2), (3, .int y3), (4, .int (y4 + 1))]) hl [1, 2, 3, 4, 0] rfl)
        · have h := ifn h c13
          refine lv_aload_n hx hb dX9_rewrite_72 rfl (lv_at hl 0 rfl) ?_
          refine va_get (D := D) (ci := 9) (v := .ref a_z_s) (C := RX9) (T := TX9) (N := 13) hx hb hts hinX9 hown hKK.1 hP 0 rfl rfl 0 (by decide) lk7 (fun _ h9 => h9) rfl dX9_rewrite_73 ?_
          refine lv_aload_n hx hb dX9_rewrite_76 rfl (lv_at hl 0 rfl) ?_
          refine lv_iload_n hx hb dX9_rewrite_77 rfl (lv_at hl 1 rfl) ?_
          refine lv_bipush (v := 20) hx hb dX9_rewrite_78 (by decide) ?_
          obtain ⟨v14, ev14, h⟩ := bn_some h
          have hs15 : va_P D vwCl (W_z cI cM a_z a_z_s a_z_past a_z_keeps a_z_entryKey a_z_entryDefault a_z_held a_z_values a_z_kinds a_z_news z_s z_past z_pasts z_changed z_entries z_keeps z_entryKey z_entryDefault z_counter z_held z_values g7 g11) _ := hP.sub (ws' := W_z cI cM a_z a_z_s a_z_past a_z_keeps a_z_entryKey a_z_entryDefault a_z_held a_z_values a_z_kinds a_z_news z_s z_past z_pasts z_changed z_entries z_keeps z_entryKey z_entryDefault z_counter z_held z_values g7 g11) [0, 1, 2, 3, 4, 5, 6, 7, 8, 9] rfl
          refine kV (As := [.int y1, .int 20]) (rest := [.ref a_z_s]) SS hKK (qX9_at l D cI cM a_z a_z_s a_z_past a_z_keeps a_z_entryKey a_z_entryDefault a_z_held a_z_values a_z_kinds a_z_news z_s z_past z_pasts z_changed z_entries z_keeps z_entryKey z_entryDefault z_counter z_held z_values g7 g11 y1 20 v14 ev14) cw111 hs15 0 9 rfl rfl rfl hl.1 rfl (Nat.le_of_ble_eq_true rfl) dX9_rewrite_80 ⟨Nat.zero_le _, Nat.zero_le _⟩ ?_
          obtain ⟨v16, iv16, ev16, h⟩ := rd_some h
          refine kAld hx hb hKK hP 1 rfl iv16 ev16 dX9_rewrite_83 ?_
          refine lv_istore (lv' := [(5, .int v16), (0, .ref a_z), (1, .int y1), (2, .int y2), (3, .int y3), (4, .int y4)]) hx hb dX9_rewrite_84 hl (by decide) rfl (fun ls hl => ?_)
          refine lv_aload_n hx hb dX9_rewrite_86 rfl (lv_at hl 1 rfl) ?_
          refine va_get (D := D) (ci := 9) (v := .ref a_z_s) (C := RX9) (T := TX9) (N := 13) hx hb hts hinX9 hown hKK.1 hP 0 rfl rfl 0 (by decide) lk7 (fun _ h9 => h9) rfl dX9_rewrite_87 ?_
          refine lv_aload_n hx hb dX9_rewrite_90 rfl (lv_at hl 1 rfl) ?_
          refine lv_iload_n hx hb dX9_rewrite_91 rfl (lv_at hl 2 rfl) ?_
          refine lv_bipush (v := 21) hx hb dX9_rewrite_92 (by decide) ?_
          refine lv_iload hx hb dX9_rewrite_94 (lv_at hl 0 rfl) ?_
          refine lv_iadd hx hb dX9_rewrite_96 ?_
          obtain ⟨v17, ev17, h⟩ := bn_some h
          refine kV (As := [.int y1, .int (21 + v16)]) (rest := [.ref a_z_s]) SS hKK (qX9_at l D cI cM a_z a_z_s a_z_past a_z_keeps a_z_entryKey a_z_entryDefault a_z_held a_z_values a_z_kinds a_z_news z_s z_past z_pasts z_changed z_entries z_keeps z_entryKey z_entryDefault z_counter z_held z_values g7 g11 y1 (21 + v16) v17 ev17) cw111 hs15 0 9 rfl rfl rfl hl.1 rfl (Nat.le_of_ble_eq_true rfl) dX9_rewrite_97 ⟨Nat.zero_le _, Nat.zero_le _⟩ ?_
          refine lv_aload_n hx hb dX9_rewrite_100 rfl (lv_at hl 1 rfl) ?_
          refine va_get (D := D) (ci := 9) (v := .ref a_z_kinds) (C := RX9) (T := TX9) (N := 13) hx hb hts hinX9 hown hKK.1 hP 0 rfl rfl 11 (by decide) lk35 (fun _ h9 => h9) rfl dX9_rewrite_101 ?_
          refine lv_iload hx hb dX9_rewrite_104 (lv_at hl 5 rfl) ?_
          obtain ⟨v18, iv18, ev18, h⟩ := rd_some h
          refine kAld hx hb hKK hP 8 rfl iv18 ev18 dX9_rewrite_106 ?_
          obtain ⟨g19, ig19, eg19, h⟩ := wr_some h
          refine kAst hx hb hKK hP hD hS 1 rfl ig19 eg19 dX9_rewrite_107 (fun H locs hP hD hS => ?_)
          have hP : va_P D vwCl (W_z cI cM a_z a_z_s a_z_past a_z_keeps a_z_entryKey a_z_entryDefault a_z_held a_z_values a_z_kinds a_z_news g19 z_past z_pasts z_changed z_entries z_keeps z_entryKey z_entryDefault z_counter z_held z_values g7 g11) H := hP
          have hD : va_D _ (W_z cI cM a_z a_z_s a_z_past a_z_keeps a_z_entryKey a_z_entryDefault a_z_held a_z_values a_z_kinds a_z_news g19 z_past z_pasts z_changed z_entries z_keeps z_entryKey z_entryDefault z_counter z_held z_values g7 g11) := hD
          refine lv_aload_n hx hb dX9_rewrite_108 rfl (lv_at hl 1 rfl) ?_
          refine va_get (D := D) (ci := 9) (v := .ref a_z_s) (C := RX9) (T := TX9) (N := 13) hx hb hts hinX9 hown hKK.1 hP 0 rfl rfl 0 (by decide) lk7 (fun _ h9 => h9) rfl dX9_rewrite_109 ?_
          refine lv_aload_n hx hb dX9_rewrite_112 rfl (lv_at hl 1 rfl) ?_
          refine lv_iload_n hx hb dX9_rewrite_113 rfl (lv_at hl 2 rfl) ?_
          refine lv_bipush (v := 20) hx hb dX9_rewrite_114 (by decide) ?_
          obtain ⟨v20, ev20, h⟩ := bn_some h
          have hs21 : va_P D vwCl (W_z cI cM a_z a_z_s a_z_past a_z_keeps a_z_entryKey a_z_entryDefault a_z_held a_z_values a_z_kinds a_z_news g19 z_past z_pasts z_changed z_entries z_keeps z_entryKey z_entryDefault z_counter z_held z_values g7 g11) _ := hP.sub (ws' := W_z cI cM a_z a_z_s a_z_past a_z_keeps a_z_entryKey a_z_entryDefault a_z_held a_z_values a_z_kinds a_z_news g19 z_past z_pasts z_changed z_entries z_keeps z_entryKey z_entryDefault z_counter z_held z_values g7 g11) [0, 1, 2, 3, 4, 5, 6, 7, 8, 9] rfl
          refine kV (As := [.int y1, .int 20]) (rest := [.ref a_z_s]) SS hKK (qX9_at l D cI cM a_z a_z_s a_z_past a_z_keeps a_z_entryKey a_z_entryDefault a_z_held a_z_values a_z_kinds a_z_news g19 z_past z_pasts z_changed z_entries z_keeps z_entryKey z_entryDefault z_counter z_held z_values g7 g11 y1 20 v20 ev20) cw111 hs21 0 9 rfl rfl rfl hl.1 rfl (Nat.le_of_ble_eq_true rfl) dX9_rewrite_116 ⟨Nat.zero_le _, Nat.zero_le _⟩ ?_
          refine lv_dup2_11 hx hb dX9_rewrite_119 rfl rfl ?_
          obtain ⟨v22, iv22, ev22, h⟩ := rd_some h
          refine kAld hx hb hKK hP 1 rfl iv22 ev22 dX9_rewrite_120 ?_
          refine lv_iconst (v := 1) hx hb dX9_rewrite_121 (by decide) ?_
          refine lv_iadd hx hb dX9_rewrite_122 ?_
          obtain ⟨g23, ig23, eg23, h⟩ := wr_some h
          refine kAst hx hb hKK hP hD hS 1 rfl ig23 eg23 dX9_rewrite_123 (fun H locs hP hD hS => ?_)
          have hP : va_P D vwCl (W_z cI cM a_z a_z_s a_z_past a_z_keeps a_z_entryKey a_z_entryDefault a_z_held a_z_values a_z_kinds a_z_news g23 z_past z_pasts z_changed z_entries z_keeps z_entryKey z_entryDefault z_counter z_held z_values g7 g11) H := hP
          have hD : va_D _ (W_z cI cM a_z a_z_s a_z_past a_z_keeps a_z_entryKey a_z_entryDefault a_z_held a_z_values a_z_kinds a_z_news g23 z_past z_pasts z_changed z_entries z_keeps z_entryKey z_entryDefault z_counter z_held z_values g7 g11) := hD
          refine lv_aload_n hx hb dX9_rewrite_124 rfl (lv_at hl 1 rfl) ?_
          refine va_get (D := D) (ci := 9) (v := .ref a_z_kinds) (C := RX9) (T := TX9) (N := 13) hx hb hts hinX9 hown hKK.1 hP 0 rfl rfl 11 (by decide) lk35 (fun _ h9 => h9) rfl dX9_rewrite_125 ?_
          refine lv_iload hx hb dX9_rewrite_128 (lv_at hl 5 rfl) ?_
          refine lv_iconst (v := 3) hx hb dX9_rewrite_130 (by decide) ?_
          obtain ⟨g24, ig24, eg24, h⟩ := wr_some h
          refine kAst hx hb hKK hP hD hS 8 rfl ig24 eg24 dX9_rewrite_131 (fun H locs hP hD hS => ?_)
          have hP : va_P D vwCl (W_z cI cM a_z a_z_s a_z_past a_z_keeps a_z_entryKey a_z_entryDefault a_z_held a_z_values a_z_kinds a_z_news g23 z_past z_pasts z_changed z_entries z_keeps z_entryKey z_entryDefault z_counter z_held z_values g24 g11) H := hP
          have hD : va_D _ (W_z cI cM a_z a_z_s a_z_past a_z_keeps a_z_entryKey a_z_entryDefault a_z_held a_z_values a_z_kinds a_z_news g23 z_past z_pasts z_changed z_entries z_keeps z_entryKey z_entryDefault z_counter z_held z_values g24 g11) := hD
          refine lv_aload_n hx hb dX9_rewrite_132 rfl (lv_at hl 1 rfl) ?_
          refine va_get (D := D) (ci := 9) (v := .ref a_z_news) (C := RX9) (T := TX9) (N := 13) hx hb hts hinX9 hown hKK.1 hP 0 rfl rfl 12 (by decide) lk38 (fun _ h9 => h9) rfl dX9_rewrite_133 ?_
          refine lv_iload hx hb dX9_rewrite_136 (lv_at hl 5 rfl) ?_
          refine lv_iload hx hb dX9_rewrite_138 (lv_at hl 0 rfl) ?_
          obtain ⟨g25, ig25, eg25, h⟩ := wr_some h
          refine kAst hx hb hKK hP hD hS 9 rfl ig25 eg25 dX9_rewrite_140 (fun H locs hP hD hS => ?_)
          have hP : va_P D vwCl (W_z cI cM a_z a_z_s a_z_past a_z_keeps a_z_entryKey a_z_entryDefault a_z_held a_z_values a_z_kinds a_z_news g23 z_past z_pasts z_changed z_entries z_keeps z_entryKey z_entryDefault z_counter z_held z_values g24 g25) H := hP
          have hD : va_D _ (W_z cI cM a_z a_z_s a_z_past a_z_keeps a_z_entryKey a_z_entryDefault a_z_held a_z_values a_z_kinds a_z_news g23 z_past z_pasts z_changed z_entries z_keeps z_entryKey z_entryDefault z_counter z_held z_values g24 g25) := hD
          refine lv_iinc (v := y4 + 1) (lv' := [(4, .int (y4 + 1)), (5, .int v16), (0, .ref a_z), (1, .int y1), (2, .int y2), (3, .int y3)]) hx hb dX9_rewrite_141 hl (k := 5) rfl rfl (by decide) rfl (fun ls hl => ?_)
          refine lv_goto (tgt := 21) hx hb dX9_rewrite_144 (by decide) ?_
          exact ih H locs g23 g24 g25 y1 y2 y3 (y4 + 1) h hP hD hS ls (lv_sub (l' := [(0, .ref a_z), (1, .int y1), (2, .int y2), (3, .int y3), (4, .int (y4 + 1))]) hl [2, 3, 4, 5, 0] rfl)
  unfold fX9_rewrite at h
  refine lv_aload_n hx hb dX9_rewrite_0 rfl (lv_at hl 0 rfl) ?_
  refine lv_iload_n hx hb dX9_rewrite_1 rfl (lv_at hl 1 rfl) ?_
  obtain ⟨v1, ev1, h⟩ := bn_some h
  have hs2 : va_P D vwCl (W_z cI cM a_z a_z_s a_z_past a_z_keeps a_z_entryKey a_z_entryDefault a_z_held a_z_values a_z_kinds a_z_news z_s z_past z_pasts z_changed z_entries z_keeps z_entryKey z_entryDefault z_counter z_held z_values z_kinds z_news) _ := hP.sub (ws' := W_z cI cM a_z a_z_s a_z_past a_z_keeps a_z_entryKey a_z_entryDefault a_z_held a_z_values a_z_kinds a_z_news z_s z_past z_pasts z_changed z_entries z_keeps z_entryKey z_entryDefault z_counter z_held z_values z_kinds z_news) [0, 1, 2, 3, 4, 5, 6, 7, 8, 9] rfl
  refine kV (As := [.int x1]) (rest := []) SS hKK (qX9_hoistedOf l D cI cM a_z a_z_s a_z_past a_z_keeps a_z_entryKey a_z_entryDefault a_z_held a_z_values a_z_kinds a_z_news z_s z_past z_pasts z_changed z_entries z_keeps z_entryKey z_entryDefault z_counter z_held z_values z_kinds z_news x1 v1 ev1) cw184 hs2 0 9 rfl rfl rfl hl.1 rfl (Nat.le_of_ble_eq_true rfl) dX9_rewrite_2 ⟨Nat.zero_le _, Nat.zero_le _⟩ ?_
  refine lv_istore_n (lv' := [(2, .int v1), (0, .ref a_z), (1, .int x1)]) hx hb dX9_rewrite_5 rfl hl (by decide) rfl (fun ls hl => ?_)
  refine lv_aload_n hx hb dX9_rewrite_6 rfl (lv_at hl 1 rfl) ?_
  refine va_get (D := D) (ci := 9) (v := .ref a_z_s) (C := RX9) (T := TX9) (N := 13) hx hb hts hinX9 hown hKK.1 hP 0 rfl rfl 0 (by decide) lk7 (fun _ h9 => h9) rfl dX9_rewrite_7 ?_
  refine lv_aload_n hx hb dX9_rewrite_10 rfl (lv_at hl 1 rfl) ?_
  refine lv_iload_n hx hb dX9_rewrite_11 rfl (lv_at hl 2 rfl) ?_
  refine lv_iconst (v := 4) hx hb dX9_rewrite_12 (by decide) ?_
  obtain ⟨v3, ev3, h⟩ := bn_some h
  refine kV (As := [.int x1, .int 4]) (rest := [.ref a_z_s]) SS hKK (qX9_at l D cI cM a_z a_z_s a_z_past a_z_keeps a_z_entryKey a_z_entryDefault a_z_held a_z_values a_z_kinds a_z_news z_s z_past z_pasts z_changed z_entries z_keeps z_entryKey z_entryDefault z_counter z_held z_values z_kinds z_news x1 4 v3 ev3) cw111 hs2 0 9 rfl rfl rfl hl.1 rfl (Nat.le_of_ble_eq_true rfl) dX9_rewrite_13 ⟨Nat.zero_le _, Nat.zero_le _⟩ ?_
  obtain ⟨v4, iv4, ev4, h⟩ := rd_some h
  refine kAld hx hb hKK hP 1 rfl iv4 ev4 dX9_rewrite_16 ?_
  refine lv_istore_n (lv' := [(3, .int v4), (2, .int v1), (0, .ref a_z), (1, .int x1)]) hx hb dX9_rewrite_17 rfl hl (by decide) rfl (fun ls hl => ?_)
  refine lv_iconst (v := 0) hx hb dX9_rewrite_18 (by decide) ?_
  refine lv_istore (lv' := [(4, .int 0), (3, .int v4), (2, .int v1), (0, .ref a_z), (1, .int x1)]) hx hb dX9_rewrite_19 hl (by decide) rfl (fun ls hl => ?_)
  exact F21 5000 s.heap [] z_s z_kinds z_news x1 v1 v4 0 h hP hD hS ls (lv_sub (l' := [(0, .ref a_z), (1, .int x1), (2, .int v1), (3, .int v4), (4, .int 0)]) hl [3, 4, 2, 1, 0] rfl)
set_option maxHeartbeats 8000000 in
set_option maxRecDepth 100000 in
theorem qX9_change (l : Launch) (D : va_G) (cI cM : ClassId) (a_z a_z_s a_z_past a_z_keeps a_z_entryKey a_z_entryDefault a_z_held a_z_values a_z_kinds a_z_news : Nat) (z_s : Nat → Int32) (z_past : Nat → Int32) (z_pasts : Int32) (z_changed : Int32) (z_entries : Int32) (z_keeps : Nat → Int32) (z_entryKey : Nat → Int32) (z_entryDefault : Nat → Int32) (z_counter : Int32) (z_held : Nat → Int32) (z_values : Nat → Int32) (z_kinds : Nat → Int32) (z_news : Nat → Int32) (x1 : Int32) (r_z_s : Nat → Int32) (h : fX9_change z_s z_entries z_entryKey z_entryDefault x1 = some r_z_s) : IM l yX9_change wsX9_change rmX9_change D cI cM [.ref a_z, .int x1] (W_z cI cM a_z a_z_s a_z_past a_z_keeps a_z_entryKey a_z_entryDefault a_z_held a_z_values a_z_kinds a_z_news z_s z_past z_pasts z_changed z_entries z_keeps z_entryKey z_entryDefault z_counter z_held z_values z_kinds z_news) (W_z cI cM a_z a_z_s a_z_past a_z_keeps a_z_entryKey a_z_entryDefault a_z_held a_z_values a_z_kinds a_z_news r_z_s z_past z_pasts z_changed z_entries z_keeps z_entryKey z_entryDefault z_counter z_held z_values z_kinds z_news) none := by
  refine IM.of (cc := cX9_change) (maxL := 4) (ret := none) (by decide) rfl (Nat.le_of_ble_eq_true rfl) ?_
  intro p e s m below meth c ls hx hb hr hml hown hts hlk hKK hP hD hS hl
  have hown : s.vm.findClass RX9 = some m.cls := hown
  have hl : lv_has ls 4 [(0, .ref a_z), (1, .int x1)] := hl
  generalize hav : ([.ref a_z, .int x1] : List Value) = av at hts ⊢
  generalize hw1 : W_z cI cM a_z a_z_s a_z_past a_z_keeps a_z_entryKey a_z_entryDefault a_z_held a_z_values a_z_kinds a_z_news r_z_s z_past z_pasts z_changed z_entries z_keeps z_entryKey z_entryDefault z_counter z_held z_values z_kinds z_news = w1
  generalize hw0 : W_z cI cM a_z a_z_s a_z_past a_z_keeps a_z_entryKey a_z_entryDefault a_z_held a_z_values a_z_kinds a_z_news z_s z_past z_pasts z_changed z_entries z_keeps z_entryKey z_entryDefault z_counter z_held z_values z_kinds z_news = w0 at hD hS ⊢
  have hP : va_P D vwCl (W_z cI cM a_z a_z_s a_z_past a_z_keeps a_z_entryKey a_z_entryDefault a_z_held a_z_values a_z_kinds a_z_news z_s z_past z_pasts z_changed z_entries z_keeps z_entryKey z_entryDefault z_counter z_held z_values z_kinds z_news) s.heap := hP
  have hD : va_D (fun q => q ∈ w0.map (·.1)) (W_z cI cM a_z a_z_s a_z_past a_z_keeps a_z_entryKey a_z_entryDefault a_z_held a_z_values a_z_kinds a_z_news z_s z_past z_pasts z_changed z_entries z_keeps z_entryKey z_entryDefault z_counter z_held z_values z_kinds z_news) := by rw [hw0]; exact hD
  have SS : CallFix p m c cX9_change 4 s av.toArray wsX9_change RX9 := ⟨hx, hb, hml, hown, hts⟩
  have hinX9 : ∀ w ∈ u_ws RX9 TX9 13, w ∈ wsX9_change := by decide +kernel
  have lk7 := hts (.fieldLink RX9 7 "SignatureChangerModel" "s" "[I") (List.mem_of_getElem? (i := 1) rfl)
  have lk23 := hts (.fieldLink RX9 23 "SignatureChangerModel" "entryKey" "[I") (List.mem_of_getElem? (i := 3) rfl)
  have lk26 := hts (.fieldLink RX9 26 "SignatureChangerModel" "entryDefault" "[I") (List.mem_of_getElem? (i := 4) rfl)
  have lk151 := hts (.fieldLink RX9 151 "SignatureChangerModel" "entries" "I") (List.mem_of_getElem? (i := 2) rfl)
  have F83 : ∀ (k22 : (Nat → Int32) → Int32 → Int32 → Option ((Nat → Int32))) (hk22 : ∀ (H : Heap) (locs : List Loc) (w_z_s : Nat → Int32) (u2 : Int32) (u3 : Int32), k22 w_z_s u2 u3 = some r_z_s → va_P D vwCl (W_z cI cM a_z a_z_s a_z_past a_z_keeps a_z_entryKey a_z_entryDefault a_z_held a_z_values a_z_kinds a_z_news w_z_s z_past z_pasts z_changed z_entries z_keeps z_entryKey z_entryDefault z_counter z_held z_values z_kinds z_news) H → va_D (fun q => q ∈ w0.map (·.1)) (W_z cI cM a_z a_z_s a_z_past a_z_keeps a_z_entryKey a_z_entryDefault a_z_held a_z_values a_z_kinds a_z_news w_z_s z_past z_pasts z_changed z_entries z_keeps z_entryKey z_entryDefault z_counter z_held z_values z_kinds z_news) → va_S (fun q => q ∈ w0.map (·.1)) s.heap H locs → ∀ ls : Array Slot, lv_has ls 4 [(0, .ref a_z), (2, .int u2), (3, .int u3)] → WI p l e rmX9_change s m av below meth c D w0 w1 none H locs 22 ls []), ∀ (H : Heap) (locs : List Loc) (z_s : Nat → Int32) (y2 : Int32) (y3 : Int32) (s1 : Int32) (s2 : Int32), jX9_change_83 z_entries z_entryKey z_entryDefault k22 z_s y2 y3 s1 s2 = some r_z_s → va_P D vwCl (W_z cI cM a_z a_z_s a_z_past a_z_keeps a_z_entryKey a_z_entryDefault a_z_held a_z_values a_z_kinds a_z_news z_s z_past z_pasts z_changed z_entries z_keeps z_entryKey z_entryDefault z_counter z_held z_values z_kinds z_news) H → va_D (fun q => q ∈ (w0).map (·.1)) (W_z cI cM a_z a_z_s a_z_past a_z_keeps a_z_entryKey a_z_entryDefault a_z_held a_z_values a_z_kinds a_z_news z_s z_past z_pasts z_changed z_entries z_keeps z_entryKey z_entryDefault z_counter z_held z_values z_kinds z_news) → va_S (fun q => q ∈ (w0).map (·.1)) s.heap H locs → ∀ ls : Array Slot, lv_has ls 4 [(0, .ref a_z), (2, .int y2), (3, .int y3)] → WI p l e rmX9_change s m av below meth c D w0 w1 none H locs 83 ls [.int s2, .int s1, .ref a_z_s] := by
    intro k22 hk22
    intro H locs z_s y2 y3 s1 s2 h hP hD hS ls hl
    unfold jX9_change_83 at h
    obtain ⟨g1, ig1, eg1, h⟩ := wr_some h
    refine kAst hx hb hKK hP hD hS 1 rfl ig1 eg1 dX9_change_83 (fun H locs hP hD hS => ?_)
    have hP : va_P D vwCl (W_z cI cM a_z a_z_s a_z_past a_z_keeps a_z_entryKey a_z_entryDefault a_z_held a_z_values a_z_kinds a_z_news g1 z_past z_pasts z_changed z_entries z_keeps z_entryKey z_entryDefault z_counter z_held z_values z_kinds z_news) H := hP
    have hD : va_D _ (W_z cI cM a_z a_z_s a_z_past a_z_keeps a_z_entryKey a_z_entryDefault a_z_held a_z_values a_z_kinds a_z_news g1 z_past z_pasts z_changed z_entries z_keeps z_entryKey z_entryDefault z_counter z_held z_values z_kinds z_news) := hD
    refine lv_iinc (v := y3 + 1) (lv' := [(3, .int (y3 + 1)), (0, .ref a_z), (2, .int y2)]) hx hb dX9_change_84 hl (k := 2) rfl rfl (by decide) rfl (fun ls hl => ?_)
    refine lv_goto (tgt := 22) hx hb dX9_change_87 (by decide) ?_
    exact hk22 H locs g1 y2 (y3 + 1) h hP hD hS ls (lv_sub (l' := [(0, .ref a_z), (2, .int y2), (3, .int (y3 + 1))]) hl [1, 2, 0] rfl)
  have F54 : ∀ (k22 : (Nat → Int32) → Int32 → Int32 → Option ((Nat → Int32))) (hk22 : ∀ (H : Heap) (locs : List Loc) (w_z_s : Nat → Int32) (u2 : Int32) (u3 : Int32), k22 w_z_s u2 u3 = some r_z_s → va_P D vwCl (W_z cI cM a_z a_z_s a_z_past a_z_keeps a_z_entryKey a_z_entryDefault a_z_held a_z_values a_z_kinds a_z_news w_z_s z_past z_pasts z_changed z_entries z_keeps z_entryKey z_entryDefault z_counter z_held z_values z_kinds z_news) H → va_D (fun q => q ∈ w0.map (·.1)) (W_z cI cM a_z a_z_s a_z_past a_z_keeps a_z_entryKey a_z_entryDefault a_z_held a_z_values a_z_kinds a_z_news w_z_s z_past z_pasts z_changed z_entries z_keeps z_entryKey z_entryDefault z_counter z_held z_values z_kinds z_news) → va_S (fun q => q ∈ w0.map (·.1)) s.heap H locs → ∀ ls : Array Slot, lv_has ls 4 [(0, .ref a_z), (2, .int u2), (3, .int u3)] → WI p l e rmX9_change s m av below meth c D w0 w1 none H locs 22 ls []), ∀ (H : Heap) (locs : List Loc) (z_s : Nat → Int32) (y2 : Int32) (y3 : Int32) (s1 : Int32) (s2 : Int32), jX9_change_54 z_entries z_entryKey z_entryDefault k22 z_s y2 y3 s1 s2 = some r_z_s → va_P D vwCl (W_z cI cM a_z a_z_s a_z_past a_z_keeps a_z_entryKey a_z_entryDefault a_z_held a_z_values a_z_kinds a_z_news z_s z_past z_pasts z_changed z_entries z_keeps z_entryKey z_entryDefault z_counter z_held z_values z_kinds z_news) H → va_D (fun q => q ∈ (w0).map (·.1)) (W_z cI cM a_z a_z_s a_z_past a_z_keeps a_z_entryKey a_z_entryDefault a_z_held a_z_values a_z_kinds a_z_news z_s z_past z_pasts z_changed z_entries z_keeps z_entryKey z_entryDefault z_counter z_held z_values z_kinds z_news) → va_S (fun q => q ∈ (w0).map (·.1)) s.heap H locs → ∀ ls : Array Slot, lv_has ls 4 [(0, .ref a_z), (2, .int y2), (3, .int y3)] → WI p l e rmX9_change s m av below meth c D w0 w1 none H locs 54 ls [.int s2, .int s1, .ref a_z_s] := by
    intro k22 hk22
    intro H locs z_s y2 y3 s1 s2 h hP hD hS ls hl
    unfold jX9_change_54 at h
    obtain ⟨g1, ig1, eg1, h⟩ := wr_some h
    refine kAst hx hb hKK hP hD hS 1 rfl ig1 eg1 dX9_change_54 (fun H locs hP hD hS => ?_)
    have hP : va_P D vwCl (W_z cI cM a_z a_z_s a_z_past a_z_keeps a_z_entryKey a_z_entryDefault a_z_held a_z_values a_z_kinds a_z_news g1 z_past z_pasts z_changed z_entries z_keeps z_entryKey z_entryDefault z_counter z_held z_values z_kinds z_news) H := hP
    have hD : va_D _ (W_z cI cM a_z a_z_s a_z_past a_z_keeps a_z_entryKey a_z_entryDefault a_z_held a_z_values a_z_kinds a_z_news g1 z_past z_pasts z_changed z_entries z_keeps z_entryKey z_entryDefault z_counter z_held z_values z_kinds z_news) := hD
    refine lv_aload_n hx hb dX9_change_55 rfl (lv_at hl 0 rfl) ?_
    refine va_get (D := D) (ci := 9) (v := .ref a_z_s) (C := RX9) (T := TX9) (N := 13) hx hb hts hinX9 hown hKK.1 hP 0 rfl rfl 0 (by decide) lk7 (fun _ h9 => h9) rfl dX9_change_56 ?_
    refine lv_iload_n hx hb dX9_change_59 rfl (lv_at hl 1 rfl) ?_
    refine lv_bipush (v := 8) hx hb dX9_change_60 (by decide) ?_
    refine lv_iadd hx hb dX9_change_62 ?_
    refine lv_iload_n hx hb dX9_change_63 rfl (lv_at hl 2 rfl) ?_
    refine lv_iadd hx hb dX9_change_64 ?_
    refine lv_iload_n hx hb dX9_change_65 rfl (lv_at hl 2 rfl) ?_
    refine lv_aload_n hx hb dX9_change_66 rfl (lv_at hl 0 rfl) ?_
    refine va_get (D := D) (ci := 9) (v := .int z_entries) (C := RX9) (T := TX9) (N := 13) hx hb hts hinX9 hown hKK.1 hP 0 rfl rfl 4 (by decide) lk151 (fun _ h9 => h9) rfl dX9_change_67 ?_
    refine lv_icmp_ge (tgt := 82) hx hb dX9_change_70 (by decide) (fun c2 => ?_) (fun c2 => ?_)
    · have h := ifp h c2
      refine lv_iconst (v := 0) hx hb dX9_change_82 (by decide) ?_
      exact F83 k22 hk22 H locs g1 y2 y3 ((y2 + 8) + y3) 0 h hP hD hS ls (lv_sub (l' := [(0, .ref a_z), (2, .int y2), (3, .int y3)]) hl [0, 1, 2] rfl)
    · have h := ifn h c2
      refine lv_aload_n hx hb dX9_change_73 rfl (lv_at hl 0 rfl) ?_
      refine va_get (D := D) (ci := 9) (v := .ref a_z_entryDefault) (C := RX9) (T := TX9) (N := 13) hx hb hts hinX9 hown hKK.1 hP 0 rfl rfl 7 (by decide) lk26 (fun _ h9 => h9) rfl dX9_change_74 ?_
      refine lv_iload_n hx hb dX9_change_77 rfl (lv_at hl 2 rfl) ?_
      obtain ⟨v3, iv3, ev3, h⟩ := rd_some h
      refine kAld hx hb hKK hP 5 rfl iv3 ev3 dX9_change_78 ?_
      refine lv_goto (tgt := 83) hx hb dX9_change_79 (by decide) ?_
      exact F83 k22 hk22 H locs g1 y2 y3 ((y2 + 8) + y3) v3 h hP hD hS ls (lv_sub (l' := [(0, .ref a_z), (2, .int y2), (3, .int y3)]) hl [0, 1, 2] rfl)
  have F22 : ∀ (n : Nat) (H : Heap) (locs : List Loc) (z_s : Nat → Int32) (y2 : Int32) (y3 : Int32), lX9_change_22 z_entries z_entryKey z_entryDefault n z_s y2 y3 = some r_z_s → va_P D vwCl (W_z cI cM a_z a_z_s a_z_past a_z_keeps a_z_entryKey a_z_entryDefault a_z_held a_z_values a_z_kinds a_z_news z_s z_past z_pasts z_changed z_entries z_keeps z_entryKey z_entryDefault z_counter z_held z_values z_kinds z_news) H → va_D (fun q => q ∈ (w0).map (·.1)) (W_z cI cM a_z a_z_s a_z_past a_z_keeps a_z_entryKey a_z_entryDefault a_z_held a_z_values a_z_kinds a_z_news z_s z_past z_pasts z_changed z_entries z_keeps z_entryKey z_entryDefault z_counter z_held z_values z_kinds z_news) → va_S (fun q => q ∈ (w0).map (·.1)) s.heap H locs → ∀ ls : Array Slot, lv_has ls 4 [(0, .ref a_z), (2, .int y2), (3, .int y3)] → WI p l e rmX9_change s m av below meth c D w0 w1 none H locs 22 ls [] := by
    intro n
    induction n with
    | zero => intro H locs z_s y2 y3 h; exact no_some h
    | succ n ih =>
      intro H locs z_s y2 y3 h hP hD hS ls hl
      rw [lX9_change_22_s] at h
      refine lv_iload_n hx hb dX9_change_22 rfl (lv_at hl 2 rfl) ?_
      refine lv_iconst (v := 5) hx hb dX9_change_23 (by decide) ?_
      refine lv_icmp_ge (tgt := 90) hx hb dX9_change_24 (by decide) (fun c1 => ?_) (fun c1 => ?_)
      · have h := ifp h c1
        have e0 := Option.some.inj h
        exact kRetV hx hb hr hlk (by rw [← hw1, ← e0]; exact hP) hS dX9_change_90
      · have h := ifn h c1
        refine lv_aload_n hx hb dX9_change_27 rfl (lv_at hl 0 rfl) ?_
        refine va_get (D := D) (ci := 9) (v := .ref a_z_s) (C := RX9) (T := TX9) (N := 13) hx hb hts hinX9 hown hKK.1 hP 0 rfl rfl 0 (by decide) lk7 (fun _ h9 => h9) rfl dX9_change_28 ?_
        refine lv_iload_n hx hb dX9_change_31 rfl (lv_at hl 1 rfl) ?_
        refine lv_iconst (v := 3) hx hb dX9_change_32 (by decide) ?_
        refine lv_iadd hx hb dX9_change_33 ?_
        refine lv_iload_n hx hb dX9_change_34 rfl (lv_at hl 2 rfl) ?_
        refine lv_iadd hx hb dX9_change_35 ?_
        refine lv_iload_n hx hb dX9_change_36 rfl (lv_at hl 2 rfl) ?_
        refine lv_aload_n hx hb dX9_change_37 rfl (lv_at hl 0 rfl) ?_
        refine va_get (D := D) (ci := 9) (v := .int z_entries) (C := RX9) (T := TX9) (N := 13) hx hb hts hinX9 hown hKK.1 hP 0 rfl rfl 4 (by decide) lk151 (fun _ h9 => h9) rfl dX9_change_38 ?_
        refine lv_icmp_ge (tgt := 53) hx hb dX9_change_41 (by decide) (fun c2 => ?_) (fun c2 => ?_)
        · have h := ifp h c2
          refine lv_iconst (v := 0) hx hb dX9_change_53 (by decide) ?_
          exact F54 (fun w_z_s u2 u3 => lX9_change_22 z_entries z_entryKey z_entryDefault n w_z_s u2 u3) (fun H locs w_z_s u2 u3 h hP hD hS ls hl => ih H locs w_z_s u2 u3 h hP hD hS ls hl) H locs z_s y2 y3 ((y2 + 3) + y3) 0 h hP hD hS ls (lv_sub (l' := [(0, .ref a_z), (2, .int y2), (3, .int y3)]) hl [0, 1, 2] rfl)
        · have h := ifn h c2
          refine lv_aload_n hx hb dX9_change_44 rfl (lv_at hl 0 rfl) ?_
          refine va_get (D := D) (ci := 9) (v := .ref a_z_entryKey) (C := RX9) (T := TX9) (N := 13) hx hb hts hinX9 hown hKK.1 hP 0 rfl rfl 6 (by decide) lk23 (fun _ h9 => h9) rfl dX9_change_45 ?_
          refine lv_iload_n hx hb dX9_change_48 rfl (lv_at hl 2 rfl) ?_
          obtain ⟨v3, iv3, ev3, h⟩ := rd_some h
          refine kAld hx hb hKK hP 4 rfl iv3 ev3 dX9_change_49 ?_
          refine lv_goto (tgt := 54) hx hb dX9_change_50 (by decide) ?_
          exact F54 (fun w_z_s u2 u3 => lX9_change_22 z_entries z_entryKey z_entryDefault n w_z_s u2 u3) (fun H locs w_z_s u2 u3 h hP hD hS ls hl => ih H locs w_z_s u2 u3 h hP hD hS ls hl) H locs z_s y2 y3 ((y2 + 3) + y3) v3 h hP hD hS ls (lv_sub (l' := [(0, .ref a_z), (2, .int y2), (3, .int y3)]) hl [0, 1, 2] rfl)
  unfold fX9_change at h
  refine lv_bipush (v := 26) hx hb dX9_change_0 (by decide) ?_
  refine lv_bipush (v := 13) hx hb dX9_change_2 (by decide) ?_
  refine lv_iload_n hx hb dX9_change_4 rfl (lv_at hl 1 rfl) ?_
  refine lv_imul hx hb dX9_change_5 ?_
  refine lv_iadd hx hb dX9_change_6 ?_
  refine lv_istore_n (lv' := [(2, .int (26 + (13 * x1))), (0, .ref a_z), (1, .int x1)]) hx hb dX9_change_7 rfl hl (by decide) rfl (fun ls hl => ?_)
  refine lv_aload_n hx hb dX9_change_8 rfl (lv_at hl 1 rfl) ?_
  refine va_get (D := D) (ci := 9) (v := .ref a_z_s) (C := RX9) (T := TX9) (N := 13) hx hb hts hinX9 hown hKK.1 hP 0 rfl rfl 0 (by decide) lk7 (fun _ h9 => h9) rfl dX9_change_9 ?_
  refine lv_iload_n hx hb dX9_change_12 rfl (lv_at hl 0 rfl) ?_
  refine lv_iconst (v := 2) hx hb dX9_change_13 (by decide) ?_
  refine lv_iadd hx hb dX9_change_14 ?_
  refine lv_aload_n hx hb dX9_change_15 rfl (lv_at hl 1 rfl) ?_
  refine va_get (D := D) (ci := 9) (v := .int z_entries) (C := RX9) (T := TX9) (N := 13) hx hb hts hinX9 hown hKK.1 hP 0 rfl rfl 4 (by decide) lk151 (fun _ h9 => h9) rfl dX9_change_16 ?_
  obtain ⟨g1, ig1, eg1, h⟩ := wr_some h
  refine kAst hx hb hKK hP hD hS 1 rfl ig1 eg1 dX9_change_19 (fun H locs hP hD hS => ?_)
  have hP : va_P D vwCl (W_z cI cM a_z a_z_s a_z_past a_z_keeps a_z_entryKey a_z_entryDefault a_z_held a_z_values a_z_kinds a_z_news g1 z_past z_pasts z_changed z_entries z_keeps z_entryKey z_entryDefault z_counter z_held z_values z_kinds z_news) H := hP
  have hD : va_D _ (W_z cI cM a_z a_z_s a_z_past a_z_keeps a_z_entryKey a_z_entryDefault a_z_held a_z_values a_z_kinds a_z_news g1 z_past z_pasts z_changed z_entries z_keeps z_entryKey z_entryDefault z_counter z_held z_values z_kinds z_news) := hD
  refine lv_iconst (v := 0) hx hb dX9_change_20 (by decide) ?_
  refine lv_istore_n (lv' := [(3, .int 0), (2, .int (26 + (13 * x1))), (0, .ref a_z), (1, .int x1)]) hx hb dX9_change_21 rfl hl (by decide) rfl (fun ls hl => ?_)
  exact F22 5000 H locs g1 (26 + (13 * x1)) 0 h hP hD hS ls (lv_sub (l' := [(0, .ref a_z), (2, .int (26 + (13 * x1))), (3, .int 0)]) hl [2, 1, 0] rfl)
set_option maxHeartbeats 8000000 in
set_option maxRecDepth 100000 in
theorem qX9_applyChange (l : Launch) (D : va_G) (cI cM : ClassId) (a_z a_z_s a_z_past a_z_keeps a_z_entryKey a_z_entryDefault a_z_held a_z_values a_z_kinds a_z_news : Nat) (z_s : Nat → Int32) (z_past : Nat → Int32) (z_pasts : Int32) (z_changed : Int32) (z_entries : Int32) (z_keeps : Nat → Int32) (z_entryKey : Nat → Int32) (z_entryDefault : Nat → Int32) (z_counter : Int32) (z_held : Nat → Int32) (z_values : Nat → Int32) (z_kinds : Nat → Int32) (z_news : Nat → Int32) (r : Int32) (r_z_s : Nat → Int32) (r_z_past : Nat → Int32) (r_z_pasts : Int32) (r_z_changed : Int32) (r_z_kinds : Nat → Int32) (r_z_news : Nat → Int32) (h : fX9_applyChange z_s z_past z_pasts z_changed z_entries z_keeps z_entryKey z_entryDefault z_kinds z_news = some (r, r_z_s, r_z_past, r_z_pasts, r_z_changed, r_z_kinds, r_z_news)) : IM l yX9_applyChange wsX9_applyChange rmX9_applyChange D cI cM [.ref a_z] (W_z cI cM a_z a_z_s a_z_past a_z_keeps a_z_entryKey a_z_entryDefault a_z_held a_z_values a_z_kinds a_z_news z_s z_past z_pasts z_changed z_entries z_keeps z_entryKey z_entryDefault z_counter z_held z_values z_kinds z_news) (W_z cI cM a_z a_z_s a_z_past a_z_keeps a_z_entryKey a_z_entryDefault a_z_held a_z_values a_z_kinds a_z_news r_z_s r_z_past r_z_pasts r_z_changed z_entries z_keeps z_entryKey z_entryDefault z_counter z_held z_values r_z_kinds r_z_news) (some (.int r)) := by
  refine IM.of (cc := cX9_applyChange) (maxL := 5) (ret := (some .int)) (by decide) rfl (Nat.le_of_ble_eq_true rfl) ?_
  intro p e s m below meth c ls hx hb hr hml hown hts hlk hKK hP hD hS hl
  have hown : s.vm.findClass RX9 = some m.cls := hown
  have hl : lv_has ls 5 [(0, .ref a_z)] := hl
  generalize hav : ([.ref a_z] : List Value) = av at hts ⊢
  generalize hw1 : W_z cI cM a_z a_z_s a_z_past a_z_keeps a_z_entryKey a_z_entryDefault a_z_held a_z_values a_z_kinds a_z_news r_z_s r_z_past r_z_pasts r_z_changed z_entries z_keeps z_entryKey z_entryDefault z_counter z_held z_values r_z_kinds r_z_news = w1
  generalize hw0 : W_z cI cM a_z a_z_s a_z_past a_z_keeps a_z_entryKey a_z_entryDefault a_z_held a_z_values a_z_kinds a_z_news z_s z_past z_pasts z_changed z_entries z_keeps z_entryKey z_entryDefault z_counter z_held z_values z_kinds z_news = w0 at hD hS ⊢
  have hP : va_P D vwCl (W_z cI cM a_z a_z_s a_z_past a_z_keeps a_z_entryKey a_z_entryDefault a_z_held a_z_values a_z_kinds a_z_news z_s z_past z_pasts z_changed z_entries z_keeps z_entryKey z_entryDefault z_counter z_held z_values z_kinds z_news) s.heap := hP
  have hD : va_D (fun q => q ∈ w0.map (·.1)) (W_z cI cM a_z a_z_s a_z_past a_z_keeps a_z_entryKey a_z_entryDefault a_z_held a_z_values a_z_kinds a_z_news z_s z_past z_pasts z_changed z_entries z_keeps z_entryKey z_entryDefault z_counter z_held z_values z_kinds z_news) := by rw [hw0]; exact hD
  have SS : CallFix p m c cX9_applyChange 5 s av.toArray wsX9_applyChange RX9 := ⟨hx, hb, hml, hown, hts⟩
  have hinX9 : ∀ w ∈ u_ws RX9 TX9 13, w ∈ wsX9_applyChange := by decide +kernel
  have lk7 := hts (.fieldLink RX9 7 "SignatureChangerModel" "s" "[I") (List.mem_of_getElem? (i := 2) rfl)
  have lk16 := hts (.fieldLink RX9 16 "SignatureChangerModel" "changed" "I") (List.mem_of_getElem? (i := 1) rfl)
  have cw48 : CallB rmX9_applyChange s av.toArray RX9 48 yX9_has cX9_has 2 (some .boolean) wsX9_has rmX9_has 0 0 2 ∧ (Cond.static yX9_has).before av.toArray s = true := va_cwS 2 hts gX9_applyChange_X9_has rfl rfl rfl (by decide +kernel) ⟨Nat.le_of_ble_eq_true rfl, Nat.le_of_ble_eq_true rfl⟩
  have cw86 : CallW rmX9_applyChange s av.toArray RX9 RX9 86 yX9_edit cX9_edit 2 none wsX9_edit rmX9_edit 0 0 0 := cwV 0 hts gX9_applyChange_X9_edit rfl rfl rfl (by decide +kernel) ⟨Nat.le_of_ble_eq_true rfl, Nat.le_of_ble_eq_true rfl⟩
  have cw108 : CallW rmX9_applyChange s av.toArray RX9 RX9 108 yX9_familyOf cX9_familyOf 6 (some .int) wsX9_familyOf rmX9_familyOf 0 0 1 := cwV 1 hts gX9_applyChange_X9_familyOf rfl rfl rfl (by decide +kernel) ⟨Nat.le_of_ble_eq_true rfl, Nat.le_of_ble_eq_true rfl⟩
  have cw111 : CallW rmX9_applyChange s av.toArray RX9 RX9 111 yX9_at cX9_at 3 (some .int) wsX9_at rmX9_at 0 0 2 := cwV 2 hts gX9_applyChange_X9_at rfl rfl rfl (by decide +kernel) ⟨Nat.le_of_ble_eq_true rfl, Nat.le_of_ble_eq_true rfl⟩
  have cw123 : CallW rmX9_applyChange s av.toArray RX9 RX9 123 yX9_isFrozen cX9_isFrozen 2 (some .boolean) wsX9_isFrozen rmX9_isFrozen 0 0 1 := cwV 1 hts gX9_applyChange_X9_isFrozen rfl rfl rfl (by decide +kernel) ⟨Nat.le_of_ble_eq_true rfl, Nat.le_of_ble_eq_true rfl⟩
  have cw166 : CallW rmX9_applyChange s av.toArray RX9 RX9 166 yX9_clash cX9_clash 3 (some .int) wsX9_clash rmX9_clash 0 0 0 := cwV 0 hts gX9_applyChange_X9_clash rfl rfl rfl (by decide +kernel) ⟨Nat.le_of_ble_eq_true rfl, Nat.le_of_ble_eq_true rfl⟩
  have cw200 : CallW rmX9_applyChange s av.toArray RX9 RX9 200 yX9_isBarred cX9_isBarred 3 (some .boolean) wsX9_isBarred rmX9_isBarred 0 0 0 := cwV 0 hts gX9_applyChange_X9_isBarred rfl rfl rfl (by decide +kernel) ⟨Nat.le_of_ble_eq_true rfl, Nat.le_of_ble_eq_true rfl⟩
  have cw203 : CallW rmX9_applyChange s av.toArray RX9 RX9 203 yX9_hasRoom cX9_hasRoom 3 (some .boolean) wsX9_hasRoom rmX9_hasRoom 0 0 0 := cwV 0 hts gX9_applyChange_X9_hasRoom rfl rfl rfl (by decide +kernel) ⟨Nat.le_of_ble_eq_true rfl, Nat.le_of_ble_eq_true rfl⟩
  have cw206 : CallW rmX9_applyChange s av.toArray RX9 RX9 206 yX9_rewrite cX9_rewrite 6 none wsX9_rewrite rmX9_rewrite 0 0 1 := cwV 1 hts gX9_applyChange_X9_rewrite rfl rfl rfl (by decide +kernel) ⟨Nat.le_of_ble_eq_true rfl, Nat.le_of_ble_eq_true rfl⟩
  have cw209 : CallW rmX9_applyChange s av.toArray RX9 RX9 209 yX9_change cX9_change 4 none wsX9_change rmX9_change 0 0 1 := cwV 1 hts gX9_applyChange_X9_change rfl rfl rfl (by decide +kernel) ⟨Nat.le_of_ble_eq_true rfl, Nat.le_of_ble_eq_true rfl⟩
  have F122 : ∀ (n : Nat) (H : Heap) (locs : List Loc) (z_s : Nat → Int32) (z_past : Nat → Int32) (z_pasts : Int32) (z_changed : Int32) (z_kinds : Nat → Int32) (z_news : Nat → Int32) (y2 : Int32) (y3 : Int32) (y4 : Int32), lX9_applyChange_122 z_entries z_keeps z_entryKey z_entryDefault n z_s z_past z_pasts z_changed z_kinds z_news y2 y3 y4 = some (r, r_z_s, r_z_past, r_z_pasts, r_z_changed, r_z_kinds, r_z_news) → va_P D vwCl (W_z cI cM a_z a_z_s a_z_past a_z_keeps a_z_entryKey a_z_entryDefault a_z_held a_z_values a_z_kinds a_z_news z_s z_past z_pasts z_changed z_entries z_keeps z_entryKey z_entryDefault z_counter z_held z_values z_kinds z_news) H → va_D (fun q => q ∈ (w0).map (·.1)) (W_z cI cM a_z a_z_s a_z_past a_z_keeps a_z_entryKey a_z_entryDefault a_z_held a_z_values a_z_kinds a_z_news z_s z_past z_pasts z_changed z_entries z_keeps z_entryKey z_entryDefault z_counter z_held z_values z_kinds z_news) → va_S (fun q => q ∈ (w0).map (·.1)) s.heap H locs → ∀ ls : Array Slot, lv_has ls 5 [(0, .ref a_z), (2, .int y2), (3, .int y3), (4, .int y4)] → WI p l e rmX9_applyChange s m av below meth c D w0 w1 (some (.int r)) H locs 122 ls [] := by
    intro n
    induction n with
    | zero => intro H locs z_s z_past z_pasts z_changed z_kinds z_news y2 y3 y4 h; exact no_some h
    | succ n ih =>
      intro H locs z_s z_past z_pasts z_changed z_kinds z_news y2 y3 y4 h hP hD hS ls hl
      rw [lX9_applyChange_122_s] at h
      refine lv_iload hx hb dX9_applyChange_122 (lv_at hl 3 rfl) ?_
      refine lv_aload_n hx hb dX9_applyChange_124 rfl (lv_at hl 0 rfl) ?_
      refine va_get (D := D) (ci := 9) (v := .ref a_z_s) (C := RX9) (T := TX9) (N := 13) hx hb hts hinX9 hown hKK.1 hP 0 rfl rfl 0 (by decide) lk7 (fun _ h9 => h9) rfl dX9_applyChange_125 ?_
      refine lv_bipush (v := 25) hx hb dX9_applyChange_128 (by decide) ?_
      obtain ⟨v1, iv1, ev1, h⟩ := rd_some h
      refine kAld hx hb hKK hP 1 rfl iv1 ev1 dX9_applyChange_130 ?_
      refine lv_icmp_ge (tgt := 155) hx hb dX9_applyChange_131 (by decide) (fun c2 => ?_) (fun c2 => ?_)
      · have h := ifp h c2
        refine lv_aload_n hx hb dX9_applyChange_155 rfl (lv_at hl 0 rfl) ?_
        refine lv_bipush (v := (-9)) hx hb dX9_applyChange_156 (by decide) ?_
        refine va_put (D := D) (ci := 9) (v := .int (-9)) (ty := .int) (C := RX9) (T := TX9) (N := 13) hx hb hts hinX9 tyX9 tyX9_ok nmX9 hown hKK.1 hP hD hS 0 rfl rfl 3 (by decide) lk16 (fun _ h9 => h9) rfl (by decide +kernel) rfl rfl (Nat.le_of_ble_eq_true rfl) dX9_applyChange_158 (fun H locs hP hD hS => ?_)
        have hP : va_P D vwCl (W_z cI cM a_z a_z_s a_z_past a_z_keeps a_z_entryKey a_z_entryDefault a_z_held a_z_values a_z_kinds a_z_news z_s z_past z_pasts (-9) z_entries z_keeps z_entryKey z_entryDefault z_counter z_held z_values z_kinds z_news) H := hP
        have hD : va_D _ (W_z cI cM a_z a_z_s a_z_past a_z_keeps a_z_entryKey a_z_entryDefault a_z_held a_z_values a_z_kinds a_z_news z_s z_past z_pasts (-9) z_entries z_keeps z_entryKey z_entryDefault z_counter z_held z_values z_kinds z_news) := hD
        refine lv_iload_n hx hb dX9_applyChange_161 rfl (lv_at hl 2 rfl) ?_
        simp only [Option.some.injEq, Prod.mk.injEq] at h
        obtain ⟨e0, e1, e2, e3, e4, e5, e6⟩ := h
        exact kRetI hx hb hr hlk e0 (by rw [← hw1, ← e1, ← e2, ← e3, ← e4, ← e5, ← e6]; exact hP) hS dX9_applyChange_162
      · have h := ifn h c2
        refine lv_iload_n hx hb dX9_applyChange_134 rfl (lv_at hl 1 rfl) ?_
        refine lv_iload hx hb dX9_applyChange_135 (lv_at hl 3 rfl) ?_
        obtain ⟨v3, ev3, h⟩ := bn_some h
        refine kS (As := [.int y2, .int y4]) (rest := []) SS hKK (qX9_has l D cI cM y2 y4 v3 ev3) cw48 va_P_nil rfl hl.1 rfl (Nat.le_of_ble_eq_true rfl) dX9_applyChange_137 ⟨Nat.zero_le _, Nat.zero_le _⟩ ?_
        refine lv_if_eq (tgt := 149) hx hb dX9_applyChange_140 (by decide) (fun c4 => ?_) (fun c4 => ?_)
        · have h := ifp h c4
          refine lv_iinc (v := y4 + 1) (lv' := [(4, .int (y4 + 1)), (0, .ref a_z), (2, .int y2), (3, .int y3)]) hx hb dX9_applyChange_149 hl (k := 3) rfl rfl (by decide) rfl (fun ls hl => ?_)
          refine lv_goto (tgt := 122) hx hb dX9_applyChange_152 (by decide) ?_
          exact ih H locs z_s z_past z_pasts z_changed z_kinds z_news y2 y3 (y4 + 1) h hP hD hS ls (lv_sub (l' := [(0, .ref a_z), (2, .int y2), (3, .int y3), (4, .int (y4 + 1))]) hl [1, 2, 3, 0] rfl)
        · have h := ifn h c4
          refine lv_aload_n hx hb dX9_applyChange_143 rfl (lv_at hl 0 rfl) ?_
          refine lv_iload hx hb dX9_applyChange_144 (lv_at hl 3 rfl) ?_
          obtain ⟨g5, eg5, h⟩ := bn_some h
          refine kVI (As := [.int y4]) (rest := []) (st1 := []) SS hKK (qX9_change l D cI cM a_z a_z_s a_z_past a_z_keeps a_z_entryKey a_z_entryDefault a_z_held a_z_values a_z_kinds a_z_news z_s z_past z_pasts z_changed z_entries z_keeps z_entryKey z_entryDefault z_counter z_held z_values z_kinds z_news y4 g5 eg5) cw209 hP hD hS [0, 1, 2, 3, 4, 5, 6, 7, 8, 9] rfl rfl rfl rfl 0 9 rfl rfl rfl hl.1 rfl (Nat.le_of_ble_eq_true rfl) dX9_applyChange_146 ⟨Nat.zero_le _, Nat.zero_le _⟩ rfl (fun H locs hP hD hS => ?_)
          have hP : va_P D vwCl (W_z cI cM a_z a_z_s a_z_past a_z_keeps a_z_entryKey a_z_entryDefault a_z_held a_z_values a_z_kinds a_z_news g5 z_past z_pasts z_changed z_entries z_keeps z_entryKey z_entryDefault z_counter z_held z_values z_kinds z_news) H := hP
          have hD : va_D _ (W_z cI cM a_z a_z_s a_z_past a_z_keeps a_z_entryKey a_z_entryDefault a_z_held a_z_values a_z_kinds a_z_news g5 z_past z_pasts z_changed z_entries z_keeps z_entryKey z_entryDefault z_counter z_held z_values z_kinds z_news) := hD
          refine lv_iinc (v := y4 + 1) (lv' := [(4, .int (y4 + 1)), (0, .ref a_z), (2, .int y2), (3, .int y3)]) hx hb dX9_applyChange_149 hl (k := 3) rfl rfl (by decide) rfl (fun ls hl => ?_)
          refine lv_goto (tgt := 122) hx hb dX9_applyChange_152 (by decide) ?_
          exact ih H locs g5 z_past z_pasts z_changed z_kinds z_news y2 y3 (y4 + 1) h hP hD hS ls (lv_sub (l' := [(0, .ref a_z), (2, .int y2), (3, .int y3), (4, .int (y4 + 1))]) hl [1, 2, 3, 0] rfl)
  have F63 : ∀ (n : Nat) (H : Heap) (locs : List Loc) (z_s : Nat → Int32) (z_past : Nat → Int32) (z_pasts : Int32) (z_changed : Int32) (z_kinds : Nat → Int32) (z_news : Nat → Int32) (y2 : Int32) (y3 : Int32) (y4 : Int32), lX9_applyChange_63 z_entries z_keeps z_entryKey z_entryDefault n z_s z_past z_pasts z_changed z_kinds z_news y2 y3 y4 = some (r, r_z_s, r_z_past, r_z_pasts, r_z_changed, r_z_kinds, r_z_news) → va_P D vwCl (W_z cI cM a_z a_z_s a_z_past a_z_keeps a_z_entryKey a_z_entryDefault a_z_held a_z_values a_z_kinds a_z_news z_s z_past z_pasts z_changed z_entries z_keeps z_entryKey z_entryDefault z_counter z_held z_values z_kinds z_news) H → va_D (fun q => q ∈ (w0).map (·.1)) (W_z cI cM a_z a_z_s a_z_past a_z_keeps a_z_entryKey a_z_entryDefault a_z_held a_z_values a_z_kinds a_z_news z_s z_past z_pasts z_changed z_entries z_keeps z_entryKey z_entryDefault z_counter z_held z_values z_kinds z_news) → va_S (fun q => q ∈ (w0).map (·.1)) s.heap H locs → ∀ ls : Array Slot, lv_has ls 5 [(0, .ref a_z), (2, .int y2), (3, .int y3), (4, .int y4)] → WI p l e rmX9_applyChange s m av below meth c D w0 w1 (some (.int r)) H locs 63 ls [] := by
    intro n
    induction n with
    | zero => intro H locs z_s z_past z_pasts z_changed z_kinds z_news y2 y3 y4 h; exact no_some h
    | succ n ih =>
      intro H locs z_s z_past z_pasts z_changed z_kinds z_news y2 y3 y4 h hP hD hS ls hl
      rw [lX9_applyChange_63_s] at h
      refine lv_iload hx hb dX9_applyChange_63 (lv_at hl 3 rfl) ?_
      refine lv_aload_n hx hb dX9_applyChange_65 rfl (lv_at hl 0 rfl) ?_
      refine va_get (D := D) (ci := 9) (v := .ref a_z_s) (C := RX9) (T := TX9) (N := 13) hx hb hts hinX9 hown hKK.1 hP 0 rfl rfl 0 (by decide) lk7 (fun _ h9 => h9) rfl dX9_applyChange_66 ?_
      refine lv_sipush (v := 234) hx hb dX9_applyChange_69 (by decide) ?_
      obtain ⟨v1, iv1, ev1, h⟩ := rd_some h
      refine kAld hx hb hKK hP 1 rfl iv1 ev1 dX9_applyChange_72 ?_
      refine lv_icmp_ge (tgt := 119) hx hb dX9_applyChange_73 (by decide) (fun c2 => ?_) (fun c2 => ?_)
      · have h := ifp h c2
        refine lv_iconst (v := 0) hx hb dX9_applyChange_119 (by decide) ?_
        refine lv_istore (lv' := [(4, .int 0), (0, .ref a_z), (2, .int y2), (3, .int y3)]) hx hb dX9_applyChange_120 hl (by decide) rfl (fun ls hl => ?_)
        exact F122 5000 H locs z_s z_past z_pasts z_changed z_kinds z_news y2 y3 0 h hP hD hS ls (lv_sub (l' := [(0, .ref a_z), (2, .int y2), (3, .int y3), (4, .int 0)]) hl [1, 2, 3, 0] rfl)
      · have h := ifn h c2
        refine lv_aload_n hx hb dX9_applyChange_76 rfl (lv_at hl 0 rfl) ?_
        refine lv_iload hx hb dX9_applyChange_77 (lv_at hl 3 rfl) ?_
        obtain ⟨v3, ev3, h⟩ := bn_some h
        have hs4 : va_P D vwCl (W_z cI cM a_z a_z_s a_z_past a_z_keeps a_z_entryKey a_z_entryDefault a_z_held a_z_values a_z_kinds a_z_news z_s z_past z_pasts z_changed z_entries z_keeps z_entryKey z_entryDefault z_counter z_held z_values z_kinds z_news) _ := hP.sub (ws' := W_z cI cM a_z a_z_s a_z_past a_z_keeps a_z_entryKey a_z_entryDefault a_z_held a_z_values a_z_kinds a_z_news z_s z_past z_pasts z_changed z_entries z_keeps z_entryKey z_entryDefault z_counter z_held z_values z_kinds z_news) [0, 1, 2, 3, 4, 5, 6, 7, 8, 9] rfl
        refine kV (As := [.int y4]) (rest := []) SS hKK (qX9_isFrozen l D cI cM a_z a_z_s a_z_past a_z_keeps a_z_entryKey a_z_entryDefault a_z_held a_z_values a_z_kinds a_z_news z_s z_past z_pasts z_changed z_entries z_keeps z_entryKey z_entryDefault z_counter z_held z_values z_kinds z_news y4 v3 ev3) cw123 hs4 0 9 rfl rfl rfl hl.1 rfl (Nat.le_of_ble_eq_true rfl) dX9_applyChange_79 ⟨Nat.zero_le _, Nat.zero_le _⟩ ?_
        refine lv_if_ne (tgt := 113) hx hb dX9_applyChange_82 (by decide) (fun c5 => ?_) (fun c5 => ?_)
        · have h := ifn h c5
          refine lv_iinc (v := y4 + 1) (lv' := [(4, .int (y4 + 1)), (0, .ref a_z), (2, .int y2), (3, .int y3)]) hx hb dX9_applyChange_113 hl (k := 3) rfl rfl (by decide) rfl (fun ls hl => ?_)
          refine lv_goto (tgt := 63) hx hb dX9_applyChange_116 (by decide) ?_
          exact ih H locs z_s z_past z_pasts z_changed z_kinds z_news y2 y3 (y4 + 1) h hP hD hS ls (lv_sub (l' := [(0, .ref a_z), (2, .int y2), (3, .int y3), (4, .int (y4 + 1))]) hl [1, 2, 3, 0] rfl)
        · have h := ifp h c5
          refine lv_iload_n hx hb dX9_applyChange_85 rfl (lv_at hl 1 rfl) ?_
          refine lv_aload_n hx hb dX9_applyChange_86 rfl (lv_at hl 0 rfl) ?_
          refine va_get (D := D) (ci := 9) (v := .ref a_z_s) (C := RX9) (T := TX9) (N := 13) hx hb hts hinX9 hown hKK.1 hP 0 rfl rfl 0 (by decide) lk7 (fun _ h9 => h9) rfl dX9_applyChange_87 ?_
          refine lv_aload_n hx hb dX9_applyChange_90 rfl (lv_at hl 0 rfl) ?_
          refine lv_iload hx hb dX9_applyChange_91 (lv_at hl 3 rfl) ?_
          refine lv_iconst (v := 2) hx hb dX9_applyChange_93 (by decide) ?_
          obtain ⟨v6, ev6, h⟩ := bn_some h
          refine kV (As := [.int y4, .int 2]) (rest := [.ref a_z_s, .int y2]) SS hKK (qX9_at l D cI cM a_z a_z_s a_z_past a_z_keeps a_z_entryKey a_z_entryDefault a_z_held a_z_values a_z_kinds a_z_news z_s z_past z_pasts z_changed z_entries z_keeps z_entryKey z_entryDefault z_counter z_held z_values z_kinds z_news y4 2 v6 ev6) cw111 hs4 0 9 rfl rfl rfl hl.1 rfl (Nat.le_of_ble_eq_true rfl) dX9_applyChange_94 ⟨Nat.zero_le _, Nat.zero_le _⟩ ?_
          obtain ⟨v7, iv7, ev7, h⟩ := rd_some h
          refine kAld hx hb hKK hP 1 rfl iv7 ev7 dX9_applyChange_97 ?_
          obtain ⟨v8, ev8, h⟩ := bn_some h
          refine kS (As := [.int y2, .int v7]) (rest := []) SS hKK (qX9_has l D cI cM y2 v7 v8 ev8) cw48 va_P_nil rfl hl.1 rfl (Nat.le_of_ble_eq_true rfl) dX9_applyChange_98 ⟨Nat.zero_le _, Nat.zero_le _⟩ ?_
          refine lv_if_eq (tgt := 113) hx hb dX9_applyChange_101 (by decide) (fun c9 => ?_) (fun c9 => ?_)
          · have h := ifp h c9
            refine lv_iinc (v := y4 + 1) (lv' := [(4, .int (y4 + 1)), (0, .ref a_z), (2, .int y2), (3, .int y3)]) hx hb dX9_applyChange_113 hl (k := 3) rfl rfl (by decide) rfl (fun ls hl => ?_)
            refine lv_goto (tgt := 63) hx hb dX9_applyChange_116 (by decide) ?_
            exact ih H locs z_s z_past z_pasts z_changed z_kinds z_news y2 y3 (y4 + 1) h hP hD hS ls (lv_sub (l' := [(0, .ref a_z), (2, .int y2), (3, .int y3), (4, .int (y4 + 1))]) hl [1, 2, 3, 0] rfl)
          · have h := ifn h c9
            refine lv_aload_n hx hb dX9_applyChange_104 rfl (lv_at hl 0 rfl) ?_
            refine lv_iload hx hb dX9_applyChange_105 (lv_at hl 3 rfl) ?_
            obtain ⟨g10, g11, g12, eg10, h⟩ := bn3_some h
            refine kVI (As := [.int y4]) (rest := []) (st1 := []) SS hKK (qX9_rewrite l D cI cM a_z a_z_s a_z_past a_z_keeps a_z_entryKey a_z_entryDefault a_z_held a_z_values a_z_kinds a_z_news z_s z_past z_pasts z_changed z_entries z_keeps z_entryKey z_entryDefault z_counter z_held z_values z_kinds z_news y4 g10 g11 g12 eg10) cw206 hP hD hS [0, 1, 2, 3, 4, 5, 6, 7, 8, 9] rfl rfl rfl rfl 0 9 rfl rfl rfl hl.1 rfl (Nat.le_of_ble_eq_true rfl) dX9_applyChange_107 ⟨Nat.zero_le _, Nat.zero_le _⟩ rfl (fun H locs hP hD hS => ?_)
            have hP : va_P D vwCl (W_z cI cM a_z a_z_s a_z_past a_z_keeps a_z_entryKey a_z_entryDefault a_z_held a_z_values a_z_kinds a_z_news g10 z_past z_pasts z_changed z_entries z_keeps z_entryKey z_entryDefault z_counter z_held z_values g11 g12) H := hP
            have hD : va_D _ (W_z cI cM a_z a_z_s a_z_past a_z_keeps a_z_entryKey a_z_entryDefault a_z_held a_z_values a_z_kinds a_z_news g10 z_past z_pasts z_changed z_entries z_keeps z_entryKey z_entryDefault z_counter z_held z_values g11 g12) := hD
            refine lv_iinc (v := y3 + 1) (lv' := [(3, .int (y3 + 1)), (0, .ref a_z), (2, .int y2), (4, .int y4)]) hx hb dX9_applyChange_110 hl (k := 2) rfl rfl (by decide) rfl (fun ls hl => ?_)
            refine lv_iinc (v := y4 + 1) (lv' := [(4, .int (y4 + 1)), (3, .int (y3 + 1)), (0, .ref a_z), (2, .int y2)]) hx hb dX9_applyChange_113 hl (k := 3) rfl rfl (by decide) rfl (fun ls hl => ?_)
            refine lv_goto (tgt := 63) hx hb dX9_applyChange_116 (by decide) ?_
            exact ih H locs g10 z_past z_pasts z_changed g11 g12 y2 (y3 + 1) (y4 + 1) h hP hD hS ls (lv_sub (l' := [(0, .ref a_z), (2, .int y2), (3, .int (y3 + 1)), (4, .int (y4 + 1))]) hl [2, 3, 1, 0] rfl)
  unfold fX9_applyChange at h
  refine lv_aload_n hx hb dX9_applyChange_0 rfl (lv_at hl 0 rfl) ?_
  refine va_get (D := D) (ci := 9) (v := .int z_changed) (C := RX9) (T := TX9) (N := 13) hx hb hts hinX9 hown hKK.1 hP 0 rfl rfl 3 (by decide) lk16 (fun _ h9 => h9) rfl dX9_applyChange_1 ?_
  refine lv_bipush (v := (-9)) hx hb dX9_applyChange_4 (by decide) ?_
  refine lv_icmp_eq (tgt := 25) hx hb dX9_applyChange_6 (by decide) (fun c1 => ?_) (fun c1 => ?_)
  · have h := ifp h c1
    refine lv_bipush (v := (-2)) hx hb dX9_applyChange_25 (by decide) ?_
    simp only [Option.some.injEq, Prod.mk.injEq] at h
    obtain ⟨e0, e1, e2, e3, e4, e5, e6⟩ := h
    exact kRetI hx hb hr hlk e0 (by rw [← hw1, ← e1, ← e2, ← e3, ← e4, ← e5, ← e6]; exact hP) hS dX9_applyChange_27
  · have h := ifn h c1
    refine lv_aload_n hx hb dX9_applyChange_9 rfl (lv_at hl 0 rfl) ?_
    obtain ⟨v2, ev2, h⟩ := bn_some h
    have hs3 : va_P D vwCl (W_z cI cM a_z a_z_s a_z_past a_z_keeps a_z_entryKey a_z_entryDefault a_z_held a_z_values a_z_kinds a_z_news z_s z_past z_pasts z_changed z_entries z_keeps z_entryKey z_entryDefault z_counter z_held z_values z_kinds z_news) _ := hP.sub (ws' := W_z cI cM a_z a_z_s a_z_past a_z_keeps a_z_entryKey a_z_entryDefault a_z_held a_z_values a_z_kinds a_z_news z_s z_past z_pasts z_changed z_entries z_keeps z_entryKey z_entryDefault z_counter z_held z_values z_kinds z_news) [0, 1, 2, 3, 4, 5, 6, 7, 8, 9] rfl
    refine kV (As := []) (rest := []) SS hKK (qX9_clash l D cI cM a_z a_z_s a_z_past a_z_keeps a_z_entryKey a_z_entryDefault a_z_held a_z_values a_z_kinds a_z_news z_s z_past z_pasts z_changed z_entries z_keeps z_entryKey z_entryDefault z_counter z_held z_values z_kinds z_news v2 ev2) cw166 hs3 0 9 rfl rfl rfl hl.1 rfl (Nat.le_of_ble_eq_true rfl) dX9_applyChange_10 ⟨Nat.zero_le _, Nat.zero_le _⟩ ?_
    refine lv_bipush (v := (-9)) hx hb dX9_applyChange_13 (by decide) ?_
    refine lv_icmp_ne (tgt := 25) hx hb dX9_applyChange_15 (by decide) (fun c4 => ?_) (fun c4 => ?_)
    · have h := ifn h c4
      refine lv_bipush (v := (-2)) hx hb dX9_applyChange_25 (by decide) ?_
      simp only [Option.some.injEq, Prod.mk.injEq] at h
      obtain ⟨e0, e1, e2, e3, e4, e5, e6⟩ := h
      exact kRetI hx hb hr hlk e0 (by rw [← hw1, ← e1, ← e2, ← e3, ← e4, ← e5, ← e6]; exact hP) hS dX9_applyChange_27
    · have h := ifp h c4
      refine lv_aload_n hx hb dX9_applyChange_18 rfl (lv_at hl 0 rfl) ?_
      obtain ⟨v5, ev5, h⟩ := bn_some h
      refine kV (As := []) (rest := []) SS hKK (qX9_isBarred l D cI cM a_z a_z_s a_z_past a_z_keeps a_z_entryKey a_z_entryDefault a_z_held a_z_values a_z_kinds a_z_news z_s z_past z_pasts z_changed z_entries z_keeps z_entryKey z_entryDefault z_counter z_held z_values z_kinds z_news v5 ev5) cw200 hs3 0 9 rfl rfl rfl hl.1 rfl (Nat.le_of_ble_eq_true rfl) dX9_applyChange_19 ⟨Nat.zero_le _, Nat.zero_le _⟩ ?_
      refine lv_if_eq (tgt := 28) hx hb dX9_applyChange_22 (by decide) (fun c6 => ?_) (fun c6 => ?_)
      · have h := ifp h c6
        refine lv_aload_n hx hb dX9_applyChange_28 rfl (lv_at hl 0 rfl) ?_
        obtain ⟨v7, ev7, h⟩ := bn_some h
        refine kV (As := []) (rest := []) SS hKK (qX9_hasRoom l D cI cM a_z a_z_s a_z_past a_z_keeps a_z_entryKey a_z_entryDefault a_z_held a_z_values a_z_kinds a_z_news z_s z_past z_pasts z_changed z_entries z_keeps z_entryKey z_entryDefault z_counter z_held z_values z_kinds z_news v7 ev7) cw203 hs3 0 9 rfl rfl rfl hl.1 rfl (Nat.le_of_ble_eq_true rfl) dX9_applyChange_29 ⟨Nat.zero_le _, Nat.zero_le _⟩ ?_
        refine lv_if_ne (tgt := 38) hx hb dX9_applyChange_32 (by decide) (fun c8 => ?_) (fun c8 => ?_)
        · have h := ifn h c8
          refine lv_aload_n hx hb dX9_applyChange_38 rfl (lv_at hl 0 rfl) ?_
          refine va_get (D := D) (ci := 9) (v := .int z_changed) (C := RX9) (T := TX9) (N := 13) hx hb hts hinX9 hown hKK.1 hP 0 rfl rfl 3 (by decide) lk16 (fun _ h9 => h9) rfl dX9_applyChange_39 ?_
          refine lv_istore_n (lv' := [(1, .int z_changed), (0, .ref a_z)]) hx hb dX9_applyChange_42 rfl hl (by decide) rfl (fun ls hl => ?_)
          refine lv_aload_n hx hb dX9_applyChange_43 rfl (lv_at hl 1 rfl) ?_
          obtain ⟨g9, g10, g11, eg9, h⟩ := bn3_some h
          refine kVI (As := []) (rest := []) (st1 := []) SS hKK (qX9_edit l D cI cM a_z a_z_s a_z_past a_z_keeps a_z_entryKey a_z_entryDefault a_z_held a_z_values a_z_kinds a_z_news z_s z_past z_pasts z_changed z_entries z_keeps z_entryKey z_entryDefault z_counter z_held z_values z_kinds z_news g9 g10 g11 eg9) cw86 hP hD hS [0, 1, 2, 3, 4, 5, 6, 7, 8, 9] rfl rfl rfl rfl 0 9 rfl rfl rfl hl.1 rfl (Nat.le_of_ble_eq_true rfl) dX9_applyChange_44 ⟨Nat.zero_le _, Nat.zero_le _⟩ rfl (fun H locs hP hD hS => ?_)
          have hP : va_P D vwCl (W_z cI cM a_z a_z_s a_z_past a_z_keeps a_z_entryKey a_z_entryDefault a_z_held a_z_values a_z_kinds a_z_news z_s g9 g10 g11 z_entries z_keeps z_entryKey z_entryDefault z_counter z_held z_values z_kinds z_news) H := hP
          have hD : va_D _ (W_z cI cM a_z a_z_s a_z_past a_z_keeps a_z_entryKey a_z_entryDefault a_z_held a_z_values a_z_kinds a_z_news z_s g9 g10 g11 z_entries z_keeps z_entryKey z_entryDefault z_counter z_held z_values z_kinds z_news) := hD
          refine lv_aload_n hx hb dX9_applyChange_47 rfl (lv_at hl 1 rfl) ?_
          refine lv_iload_n hx hb dX9_applyChange_48 rfl (lv_at hl 0 rfl) ?_
          refine va_put (D := D) (ci := 9) (v := .int z_changed) (ty := .int) (C := RX9) (T := TX9) (N := 13) hx hb hts hinX9 tyX9 tyX9_ok nmX9 hown hKK.1 hP hD hS 0 rfl rfl 3 (by decide) lk16 (fun _ h9 => h9) rfl (by decide +kernel) rfl rfl (Nat.le_of_ble_eq_true rfl) dX9_applyChange_49 (fun H locs hP hD hS => ?_)
          have hP : va_P D vwCl (W_z cI cM a_z a_z_s a_z_past a_z_keeps a_z_entryKey a_z_entryDefault a_z_held a_z_values a_z_kinds a_z_news z_s g9 g10 z_changed z_entries z_keeps z_entryKey z_entryDefault z_counter z_held z_values z_kinds z_news) H := hP
          have hD : va_D _ (W_z cI cM a_z a_z_s a_z_past a_z_keeps a_z_entryKey a_z_entryDefault a_z_held a_z_values a_z_kinds a_z_news z_s g9 g10 z_changed z_entries z_keeps z_entryKey z_entryDefault z_counter z_held z_values z_kinds z_news) := hD
          refine lv_aload_n hx hb dX9_applyChange_52 rfl (lv_at hl 1 rfl) ?_
          refine lv_iload_n hx hb dX9_applyChange_53 rfl (lv_at hl 0 rfl) ?_
          obtain ⟨v12, ev12, h⟩ := bn_some h
          have hs13 : va_P D vwCl (W_z cI cM a_z a_z_s a_z_past a_z_keeps a_z_entryKey a_z_entryDefault a_z_held a_z_values a_z_kinds a_z_news z_s g9 g10 z_changed z_entries z_keeps z_entryKey z_entryDefault z_counter z_held z_values z_kinds z_news) _ := hP.sub (ws' := W_z cI cM a_z a_z_s a_z_past a_z_keeps a_z_entryKey a_z_entryDefault a_z_held a_z_values a_z_kinds a_z_news z_s g9 g10 z_changed z_entries z_keeps z_entryKey z_entryDefault z_counter z_held z_values z_kinds z_news) [0, 1, 2, 3, 4, 5, 6, 7, 8, 9] rfl
          refine kV (As := [.int z_changed]) (rest := []) SS hKK (qX9_familyOf l D cI cM a_z a_z_s a_z_past a_z_keeps a_z_entryKey a_z_entryDefault a_z_held a_z_values a_z_kinds a_z_news z_s g9 g10 z_changed z_entries z_keeps z_entryKey z_entryDefault z_counter z_held z_values z_kinds z_news z_changed v12 ev12) cw108 hs13 0 9 rfl rfl rfl hl.1 rfl (Nat.le_of_ble_eq_true rfl) dX9_applyChange_54 ⟨Nat.zero_le _, Nat.zero_le _⟩ ?_
          refine lv_istore_n (lv' := [(2, .int v12), (1, .int z_changed), (0, .ref a_z)]) hx hb dX9_applyChange_57 rfl hl (by decide) rfl (fun ls hl => ?_)
          refine lv_iconst (v := 0) hx hb dX9_applyChange_58 (by decide) ?_
          refine lv_istore_n (lv' := [(3, .int 0), (2, .int v12), (1, .int z_changed), (0, .ref a_z)]) hx hb dX9_applyChange_59 rfl hl (by decide) rfl (fun ls hl => ?_)
          refine lv_iconst (v := 0) hx hb dX9_applyChange_60 (by decide) ?_
          refine lv_istore (lv' := [(4, .int 0), (3, .int 0), (2, .int v12), (1, .int z_changed), (0, .ref a_z)]) hx hb dX9_applyChange_61 hl (by decide) rfl (fun ls hl => ?_)
          exact F63 5000 H locs z_s g9 g10 z_changed z_kinds z_news v12 0 0 h hP hD hS ls (lv_sub (l' := [(0, .ref a_z), (2, .int v12), (3, .int 0), (4, .int 0)]) hl [4, 2, 1, 0] rfl)
        · have h := ifp h c8
          refine lv_bipush (v := (-3)) hx hb dX9_applyChange_35 (by decide) ?_
          simp only [Option.some.injEq, Prod.mk.injEq] at h
          obtain ⟨e0, e1, e2, e3, e4, e5, e6⟩ := h
          exact kRetI hx hb hr hlk e0 (by rw [← hw1, ← e1, ← e2, ← e3, ← e4, ← e5, ← e6]; exact hP) hS dX9_applyChange_37
      · have h := ifn h c6
        refine lv_bipush (v := (-2)) hx hb dX9_applyChange_25 (by decide) ?_
        simp only [Option.some.injEq, Prod.mk.injEq] at h
        obtain ⟨e0, e1, e2, e3, e4, e5, e6⟩ := h
        exact kRetI hx hb hr hlk e0 (by rw [← hw1, ← e1, ← e2, ← e3, ← e4, ← e5, ← e6]; exact hP) hS dX9_applyChange_27
