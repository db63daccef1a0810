abbrev rmX5_init : Room := { frames := 1, cells := 5, slots := 208, locals := 12 }
set_option maxHeartbeats 16000000 in
set_option maxRecDepth 100000 in
theorem kX5_init (l : Launch) (D : va_G) (cI cM : ClassId) (h0 sz : Nat) : CM l yX5_init wsX5_init rmX5_init D cI cM h0 sz [(h0, .inr (5, [.int 0, .null, .null, .null, .null, .null]))] (fun a => B_m cI cM h0 (a 0) (a 1) (a 2) (a 3) (a 4) 0 z1 z1 z1 z1 z1) 5 208 := by
  refine CM.of (cc := cX5_init) (maxL := 1) (by decide) rfl rfl (Nat.le_of_ble_eq_true rfl) ?_
  intro p e s m below meth c ls hx hb hr hml hown hts hlk hin hsz hKK hAO hP hD hS hA hl
  have hown : s.vm.findClass RX5 = some m.cls := hown
  have SS : CallFix p m c cX5_init 1 s [Value.ref h0].toArray wsX5_init RX5 := ⟨hx, hb, hml, hown, hts⟩
  have hinX5 : ∀ w ∈ u_ws RX5 TX5 6, w ∈ wsX5_init := by decide +kernel
  refine lv_aload_n hx hb dX5_init_0 rfl (lv_at hl 0 rfl) ?_
  refine W.objInit hx hb hown (hts (.methodLink RX5 3 objectInit) (List.mem_of_getElem? (i := 1) rfl)) (hts (.instanceMethod objectInit) (List.mem_of_getElem? (i := 2) rfl)) (hts (.code objectInit ⟨#[0xb1]⟩ 1 none) (List.mem_of_getElem? (i := 3) rfl)) rfl (by rw [hml]; exact hl.1) rfl dX5_init_1 (Nat.le_of_ble_eq_true rfl) (Nat.le_of_ble_eq_true rfl) ?_
  refine W.eq (g2 := F0 m 4 ls []) rfl ?_
  refine lv_aload_n hx hb dX5_init_4 rfl (lv_at hl 0 rfl) ?_
  refine lv_bipush (v := 16) hx hb dX5_init_5 (by decide) ?_
  refine kNewa (N := 16) hx hb (hts (.arrayClass .int) (List.mem_of_getElem? (i := 4) rfl)) hKK hP hD hS hA (by decide) rfl (Nat.le_of_ble_eq_true rfl) (Nat.le_of_ble_eq_true rfl) (Nat.le_of_ble_eq_true rfl) dX5_init_7 (fun q1 H hP hD hS => ?_)
  refine W.widen (k := 1) (n := 16) (Nat.le_of_ble_eq_true rfl) (Nat.le_of_ble_eq_true rfl) ?_
  have hP : va_P D vwCl ([(h0, .inr (5, [.int 0, .null, .null, .null, .null, .null])), (q1, .inl (cI, 16, .inl z1))]) H := hP
  have hD : va_D _ ([(h0, .inr (5, [.int 0, .null, .null, .null, .null, .null])), (q1, .inl (cI, 16, .inl z1))]) := hD
  refine va_putF (D := D) (ci := 5) (v := .ref q1) (ty := .array .int) (C := RX5) (T := TX5) (N := 6) hx hb hts hinX5 tyX5 tyX5_ok nmX5 hown hKK.1 hP hD hS 0 rfl rfl 1 (by decide) (hts (.fieldLink RX5 9 "SignatureChanger$Methods" "type" "[I") (List.mem_of_getElem? (i := 5) rfl)) (fun _ h9 => h9) rfl hin rfl (by decide +kernel) rfl rfl (Nat.le_of_ble_eq_true rfl) dX5_init_9 (fun H locs hP hD hS => ?_)
  have hP : va_P D vwCl ([(h0, .inr (5, [.int 0, .ref q1, .null, .null, .null, .null])), (q1, .inl (cI, 16, .inl z1))]) H := hP
  have hD : va_D _ ([(h0, .inr (5, [.int 0, .ref q1, .null, .null, .null, .null])), (q1, .inl (cI, 16, .inl z1))]) := hD
  refine lv_aload_n hx hb dX5_init_12 rfl (lv_at hl 0 rfl) ?_
  refine lv_bipush (v := 16) hx hb dX5_init_13 (by decide) ?_
  refine kNewa (N := 16) hx hb (hts (.arrayClass .int) (List.mem_of_getElem? (i := 4) rfl)) hKK hP hD hS hA (by decide) rfl (Nat.le_of_ble_eq_true rfl) (Nat.le_of_ble_eq_true rfl) (Nat.le_of_ble_eq_true rfl) dX5_init_15 (fun q2 H hP hD hS => ?_)
  refine W.widen (k := 2) (n := 32) (Nat.le_of_ble_eq_true rfl) (Nat.le_of_ble_eq_true rfl) ?_
  have hP : va_P D vwCl ([(h0, .inr (5, [.int 0, .ref q1, .null, .null, .null, .null])), (q1, .inl (cI, 16, .inl z1)), (q2, .inl (cI, 16, .inl z1))]) H := hP
  have hD : va_D _ ([(h0, .inr (5, [.int 0, .ref q1, .null, .null, .null, .null])), (q1, .inl (cI, 16, .inl z1)), (q2, .inl (cI, 16, .inl z1))]) := hD
  refine va_putF (D := D) (ci := 5) (v := .ref q2) (ty := .array .int) (C := RX5) (T := TX5) (N := 6) hx hb hts hinX5 tyX5 tyX5_ok nmX5 hown hKK.1 hP hD hS 0 rfl rfl 2 (by decide) (hts (.fieldLink RX5 15 "SignatureChanger$Methods" "name" "[I") (List.mem_of_getElem? (i := 6) rfl)) (fun _ h9 => h9) rfl hin rfl (by decide +kernel) rfl rfl (Nat.le_of_ble_eq_true rfl) dX5_init_17 (fun H locs hP hD hS => ?_)
  have hP : va_P D vwCl ([(h0, .inr (5, [.int 0, .ref q1, .ref q2, .null, .null, .null])), (q1, .inl (cI, 16, .inl z1)), (q2, .inl (cI, 16, .inl z1))]) H := hP
  have hD : va_D _ ([(h0, .inr (5, [.int 0, .ref q1, .ref q2, .null, .null, .null])), (q1, .inl (cI, 16, .inl z1)), (q2, .inl (cI, 16, .inl z1))]) := hD
  refine lv_aload_n hx hb dX5_init_20 rfl (lv_at hl 0 rfl) ?_
  refine lv_bipush (v := 16) hx hb dX5_init_21 (by decide) ?_
  refine kNewa (N := 16) hx hb (hts (.arrayClass .int) (List.mem_of_getElem? (i := 4) rfl)) hKK hP hD hS hA (by decide) rfl (Nat.le_of_ble_eq_true rfl) (Nat.le_of_ble_eq_true rfl) (Nat.le_of_ble_eq_true rfl) dX5_init_23 (fun q3 H hP hD hS => ?_)
  refine W.widen (k := 3) (n := 48) (Nat.le_of_ble_eq_true rfl) (Nat.le_of_ble_eq_true rfl) ?_
  have hP : va_P D vwCl ([(h0, .inr (5, [.int 0, .ref q1, .ref q2, .null, .null, .null])), (q1, .inl (cI, 16, .inl z1)), (q2, .inl (cI, 16, .inl z1)), (q3, .inl (cI, 16, .inl z1))]) H := hP
  have hD : va_D _ ([(h0, .inr (5, [.int 0, .ref q1, .ref q2, .null, .null, .null])), (q1, .inl (cI, 16, .inl z1)), (q2, .inl (cI, 16, .inl z1)), (q3, .inl (cI, 16, .inl z1))]) := hD
  refine va_putF (D := D) (ci := 5) (v := .ref q3) (ty := .array .int) (C := RX5) (T := TX5) (N := 6) hx hb hts hinX5 tyX5 tyX5_ok nmX5 hown hKK.1 hP hD hS 0 rfl rfl 3 (by decide) (hts (.fieldLink RX5 18 "SignatureChanger$Methods" "arity" "[I") (List.mem_of_getElem? (i := 7) rfl)) (fun _ h9 => h9) rfl hin rfl (by decide +kernel) rfl rfl (Nat.le_of_ble_eq_true rfl) dX5_init_25 (fun H locs hP hD hS => ?_)
  have hP : va_P D vwCl ([(h0, .inr (5, [.int 0, .ref q1, .ref q2, .ref q3, .null, .null])), (q1, .inl (cI, 16, .inl z1)), (q2, .inl (cI, 16, .inl z1)), (q3, .inl (cI, 16, .inl z1))]) H := hP
  have hD : va_D _ ([(h0, .inr (5, [.int 0, .ref q1, .ref q2, .ref q3, .null, .null])), (q1, .inl (cI, 16, .inl z1)), (q2, .inl (cI, 16, .inl z1)), (q3, .inl (cI, 16, .inl z1))]) := hD
  refine lv_aload_n hx hb dX5_init_28 rfl (lv_at hl 0 rfl) ?_
  refine lv_bipush (v := 80) hx hb dX5_init_29 (by decide) ?_
  refine kNewa (N := 80) hx hb (hts (.arrayClass .int) (List.mem_of_getElem? (i := 4) rfl)) hKK hP hD hS hA (by decide) rfl (Nat.le_of_ble_eq_true rfl) (Nat.le_of_ble_eq_true rfl) (Nat.le_of_ble_eq_true rfl) dX5_init_31 (fun q4 H hP hD hS => ?_)
  refine W.widen (k := 4) (n := 128) (Nat.le_of_ble_eq_true rfl) (Nat.le_of_ble_eq_true rfl) ?_
  have hP : va_P D vwCl ([(h0, .inr (5, [.int 0, .ref q1, .ref q2, .ref q3, .null, .null])), (q1, .inl (cI, 16, .inl z1)), (q2, .inl (cI, 16, .inl z1)), (q3, .inl (cI, 16, .inl z1)), (q4, .inl (cI, 80, .inl z1))]) H := hP
  have hD : va_D _ ([(h0, .inr (5, [.int 0, .ref q1, .ref q2, .ref q3, .null, .null])), (q1, .inl (cI, 16, .inl z1)), (q2, .inl (cI, 16, .inl z1)), (q3, .inl (cI, 16, .inl z1)), (q4, .inl (cI, 80, .inl z1))]) := hD
  refine va_putF (D := D) (ci := 5) (v := .ref q4) (ty := .array .int) (C := RX5) (T := TX5) (N := 6) hx hb hts hinX5 tyX5 tyX5_ok nmX5 hown hKK.1 hP hD hS 0 rfl rfl 4 (by decide) (hts (.fieldLink RX5 21 "SignatureChanger$Methods" "keys" "[I") (List.mem_of_getElem? (i := 8) rfl)) (fun _ h9 => h9) rfl hin rfl (by decide +kernel) rfl rfl (Nat.le_of_ble_eq_true rfl) dX5_init_33 (fun H locs hP hD hS => ?_)
  have hP : va_P D vwCl ([(h0, .inr (5, [.int 0, .ref q1, .ref q2, .ref q3, .ref q4, .null])), (q1, .inl (cI, 16, .inl z1)), (q2, .inl (cI, 16, .inl z1)), (q3, .inl (cI, 16, .inl z1)), (q4, .inl (cI, 80, .inl z1))]) H := hP
  have hD : va_D _ ([(h0, .inr (5, [.int 0, .ref q1, .ref q2, .ref q3, .ref q4, .null])), (q1, .inl (cI, 16, .inl z1)), (q2, .inl (cI, 16, .inl z1)), (q3, .inl (cI, 16, .inl z1)), (q4, .inl (cI, 80, .inl z1))]) := hD
  refine lv_aload_n hx hb dX5_init_36 rfl (lv_at hl 0 rfl) ?_
  refine lv_bipush (v := 80) hx hb dX5_init_37 (by decide) ?_
  refine kNewa (N := 80) hx hb (hts (.arrayClass .int) (List.mem_of_getElem? (i := 4) rfl)) hKK hP hD hS hA (by decide) rfl (Nat.le_of_ble_eq_true rfl) (Nat.le_of_ble_eq_true rfl) (Nat.le_of_ble_eq_true rfl) dX5_init_39 (fun q5 H hP hD hS => ?_)
  refine W.widen (k := 5) (n := 208) (Nat.le_of_ble_eq_true rfl) (Nat.le_of_ble_eq_true rfl) ?_
  have hP : va_P D vwCl ([(h0, .inr (5, [.int 0, .ref q1, .ref q2, .ref q3, .ref q4, .null])), (q1, .inl (cI, 16, .inl z1)), (q2, .inl (cI, 16, .inl z1)), (q3, .inl (cI, 16, .inl z1)), (q4, .inl (cI, 80, .inl z1)), (q5, .inl (cI, 80, .inl z1))]) H := hP
  have hD : va_D _ ([(h0, .inr (5, [.int 0, .ref q1, .ref q2, .ref q3, .ref q4, .null])), (q1, .inl (cI, 16, .inl z1)), (q2, .inl (cI, 16, .inl z1)), (q3, .inl (cI, 16, .inl z1)), (q4, .inl (cI, 80, .inl z1)), (q5, .inl (cI, 80, .inl z1))]) := hD
  refine va_putF (D := D) (ci := 5) (v := .ref q5) (ty := .array .int) (C := RX5) (T := TX5) (N := 6) hx hb hts hinX5 tyX5 tyX5_ok nmX5 hown hKK.1 hP hD hS 0 rfl rfl 5 (by decide) (hts (.fieldLink RX5 24 "SignatureChanger$Methods" "defaults" "[I") (List.mem_of_getElem? (i := 9) rfl)) (fun _ h9 => h9) rfl hin rfl (by decide +kernel) rfl rfl (Nat.le_of_ble_eq_true rfl) dX5_init_41 (fun H locs hP hD hS => ?_)
  have hP : va_P D vwCl ([(h0, .inr (5, [.int 0, .ref q1, .ref q2, .ref q3, .ref q4, .ref q5])), (q1, .inl (cI, 16, .inl z1)), (q2, .inl (cI, 16, .inl z1)), (q3, .inl (cI, 16, .inl z1)), (q4, .inl (cI, 80, .inl z1)), (q5, .inl (cI, 80, .inl z1))]) H := hP
  have hD : va_D _ ([(h0, .inr (5, [.int 0, .ref q1, .ref q2, .ref q3, .ref q4, .ref q5])), (q1, .inl (cI, 16, .inl z1)), (q2, .inl (cI, 16, .inl z1)), (q3, .inl (cI, 16, .inl z1)), (q4, .inl (cI, 80, .inl z1)), (q5, .inl (cI, 80, .inl z1))]) := hD
  exact kRetC hx hb hr hlk (fun k => match k with | 0 => q1 | 1 => q2 | 2 => q3 | 3 => q4 | 4 => q5 | _ => 0) hP hD hS (Nat.le_of_ble_eq_true rfl) (Nat.le_of_ble_eq_true rfl) dX5_init_44
