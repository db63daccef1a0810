abbrev rmX2_init : Room := { frames := 1, cells := 2, slots := 13, locals := 12 }
set_option maxHeartbeats 16000000 in
set_option maxRecDepth 100000 in
theorem kX2_init (l : Launch) (D : va_G) (cI cM : ClassId) (h0 sz : Nat) : CM l yX2_init wsX2_init rmX2_init D cI cM h0 sz [(h0, .inr (2, [.int 0, .null, .null]))] (fun a => B_e cI cM h0 (a 0) (a 1) 0 z1 z1) 2 13 := by
  refine CM.of (cc := cX2_init) (maxL := 1) (by decide) rfl rfl (Nat.le_of_ble_eq_true rfl) ?_
  intro p e s m below meth c ls hx hb hr hml hown hts hlk hin hsz hKK hAO hP hD hS hA hl
  have hown : s.vm.findClass RX2 = some m.cls := hown
  have SS : CallFix p m c cX2_init 1 s [Value.ref h0].toArray wsX2_init RX2 := ⟨hx, hb, hml, hown, hts⟩
  have hinX2 : ∀ w ∈ u_ws RX2 TX2 3, w ∈ wsX2_init := by decide +kernel
  refine lv_aload_n hx hb dX2_init_0 rfl (lv_at hl 0 rfl) ?_
  refine W.objInit hx hb hown (hts (.methodLink RX2 3 objectInit) (List.mem_of_getElem? (i := 1) rfl)) (hts (.instanceMethod objectInit) (List.mem_of_getElem? (i := 2) rfl)) (hts (.code objectInit ⟨#[0xb1]⟩ 1 none) (List.mem_of_getElem? (i := 3) rfl)) rfl (by rw [hml]; exact hl.1) rfl dX2_init_1 (Nat.le_of_ble_eq_true rfl) (Nat.le_of_ble_eq_true rfl) ?_
  refine W.eq (g2 := F0 m 4 ls []) rfl ?_
  refine lv_aload_n hx hb dX2_init_4 rfl (lv_at hl 0 rfl) ?_
  refine lv_bipush (v := 8) hx hb dX2_init_5 (by decide) ?_
  refine kNewa (N := 8) hx hb (hts (.arrayClass .int) (List.mem_of_getElem? (i := 4) rfl)) hKK hP hD hS hA (by decide) rfl (Nat.le_of_ble_eq_true rfl) (Nat.le_of_ble_eq_true rfl) (Nat.le_of_ble_eq_true rfl) dX2_init_7 (fun q1 H hP hD hS => ?_)
  refine W.widen (k := 1) (n := 8) (Nat.le_of_ble_eq_true rfl) (Nat.le_of_ble_eq_true rfl) ?_
  have hP : va_P D vwCl ([(h0, .inr (2, [.int 0, .null, .null])), (q1, .inl (cI, 8, .inl z1))]) H := hP
  have hD : va_D _ ([(h0, .inr (2, [.int 0, .null, .null])), (q1, .inl (cI, 8, .inl z1))]) := hD
  refine va_putF (D := D) (ci := 2) (v := .ref q1) (ty := .array .int) (C := RX2) (T := TX2) (N := 3) hx hb hts hinX2 tyX2 tyX2_ok nmX2 hown hKK.1 hP hD hS 0 rfl rfl 1 (by decide) (hts (.fieldLink RX2 9 "SignatureChanger$Evaluation" "temporaries" "[I") (List.mem_of_getElem? (i := 5) rfl)) (fun _ h9 => h9) rfl hin rfl (by decide +kernel) rfl rfl (Nat.le_of_ble_eq_true rfl) dX2_init_9 (fun H locs hP hD hS => ?_)
  have hP : va_P D vwCl ([(h0, .inr (2, [.int 0, .ref q1, .null])), (q1, .inl (cI, 8, .inl z1))]) H := hP
  have hD : va_D _ ([(h0, .inr (2, [.int 0, .ref q1, .null])), (q1, .inl (cI, 8, .inl z1))]) := hD
  refine lv_aload_n hx hb dX2_init_12 rfl (lv_at hl 0 rfl) ?_
  refine lv_iconst (v := 5) hx hb dX2_init_13 (by decide) ?_
  refine kNewa (N := 5) hx hb (hts (.arrayClass .int) (List.mem_of_getElem? (i := 4) rfl)) hKK hP hD hS hA (by decide) rfl (Nat.le_of_ble_eq_true rfl) (Nat.le_of_ble_eq_true rfl) (Nat.le_of_ble_eq_true rfl) dX2_init_14 (fun q2 H hP hD hS => ?_)
  refine W.widen (k := 2) (n := 13) (Nat.le_of_ble_eq_true rfl) (Nat.le_of_ble_eq_true rfl) ?_
  have hP : va_P D vwCl ([(h0, .inr (2, [.int 0, .ref q1, .null])), (q1, .inl (cI, 8, .inl z1)), (q2, .inl (cI, 5, .inl z1))]) H := hP
  have hD : va_D _ ([(h0, .inr (2, [.int 0, .ref q1, .null])), (q1, .inl (cI, 8, .inl z1)), (q2, .inl (cI, 5, .inl z1))]) := hD
  refine va_putF (D := D) (ci := 2) (v := .ref q2) (ty := .array .int) (C := RX2) (T := TX2) (N := 3) hx hb hts hinX2 tyX2 tyX2_ok nmX2 hown hKK.1 hP hD hS 0 rfl rfl 2 (by decide) (hts (.fieldLink RX2 15 "SignatureChanger$Evaluation" "arguments" "[I") (List.mem_of_getElem? (i := 6) rfl)) (fun _ h9 => h9) rfl hin rfl (by decide +kernel) rfl rfl (Nat.le_of_ble_eq_true rfl) dX2_init_16 (fun H locs hP hD hS => ?_)
  have hP : va_P D vwCl ([(h0, .inr (2, [.int 0, .ref q1, .ref q2])), (q1, .inl (cI, 8, .inl z1)), (q2, .inl (cI, 5, .inl z1))]) H := hP
  have hD : va_D _ ([(h0, .inr (2, [.int 0, .ref q1, .ref q2])), (q1, .inl (cI, 8, .inl z1)), (q2, .inl (cI, 5, .inl z1))]) := hD
  exact kRetC hx hb hr hlk (fun k => match k with | 0 => q1 | 1 => q2 | _ => 0) hP hD hS (Nat.le_of_ble_eq_true rfl) (Nat.le_of_ble_eq_true rfl) dX2_init_19
