/-! constructors: contracts of methods that make cells -/
def CQ (D : va_G) (h0 sz : Nat) (mk : (Nat → Nat) → va_W) : Array Value → State → Outcome → State → Prop := fun _ st oc t =>
  oc = .returned none ∧ (∃ a : Nat → Nat, va_P D vwCl (mk a) t.heap ∧ va_D (fun q => q = h0 ∨ sz ≤ q) (mk a)) ∧ va_F (fun q => q = h0 ∨ sz ≤ q) st t
def CM (l : Launch) (y : MethodName) (ws : List Cond) (rm : Room) (D : va_G) (cI cM : ClassId) (h0 sz : Nat) (w0 : va_W) (mk : (Nat → Nat) → va_W) (mc ms : Nat) : Prop :=
  Met l y ws rm (va_Pc [.ref h0] (fun U => U.heap.size = sz ∧ va_P D vwCl w0 U.heap ∧ KK D cI cM U ∧ va_AO RX6 U)) (CQ D h0 sz mk) mc ms (fun q => q = h0 ∨ sz ≤ q)
theorem CM.of {l : Launch} {y : MethodName} {ws ws' : List Cond} {rm : Room} {D : va_G} {cI cM : ClassId} {h0 sz : Nat} {e0 : va_E} {mk : (Nat → Nat) → va_W} {mc ms : Nat} {cc : ByteArray} {maxL : Nat} (hy : plainName y.cls = true) (hyn : y.name = "<init>") (hw : ws = Cond.code y cc maxL none :: ws') (hlen : (lg_sl [.ref h0]).length ≤ maxL)
    (body : ∀ (p : Program) (e : Env) (s : State) (m : MethodId) (below : List Frame) (meth : Method) (c : Code) (ls : Array Slot), p.tables.exec = Jvm.exec → c.code = cc → meth.sig.returnType = none → c.maxLocals = maxL → s.vm.findClass y.cls = some m.cls → (∀ w ∈ ws, w.before [Value.ref h0].toArray s = true) → meth.locks = false → meth.name = "<init>" → s.heap.size = sz → KK D cI cM s → va_AO RX6 s → va_P D vwCl [(h0, e0)] s.heap → va_D (fun q => q = h0 ∨ sz ≤ q) [(h0, e0)] → va_S (fun q => q = h0 ∨ sz ≤ q) s.heap s.heap [] → (∀ q, s.heap.size ≤ q → (q = h0 ∨ sz ≤ q)) → lv_has ls maxL [(0, .ref h0)] → W p l e rm s m [Value.ref h0].toArray below meth c s.heap [] 0 0 (MQ below (CQ D h0 sz mk) [Value.ref h0].toArray s mc ms (fun q => q = h0 ∨ sz ≤ q)) (F0 m 0 ls [])) : CM l y ws rm D cI cM h0 sz [(h0, e0)] mk mc ms := by
  refine Met.ofW (cc := cc) (maxL := maxL) (ret := none) hy hw ?_
  intro p e s m args below meth c s₁ B hml hv
  obtain ⟨rfl, hsz, hP, hK, hAO⟩ := hv
  rw [lg_entry_eq]
  exact body p e s m below meth c _ B.exec B.bytes B.returns hml (findClass_of_methodNamed B.named) (atoms_spec (ws := ws) B.pre) B.notSynchronized ((name_of_methodNamed B.named B.method).1.trans hyn) hsz hK hAO hP ⟨fun i j x y hi hj _ => by
    have hi := (List.getElem?_eq_some_iff.mp hi).1
    have hj := (List.getElem?_eq_some_iff.mp hj).1
    simp at hi hj
    omega, fun k q hk => by
    have := List.mem_of_getElem? hk
    simp at this
    exact Or.inl (by rw [this])⟩ va_S.rf (fun q hq => Or.inr (by rw [← hsz]; exact hq)) (lv_entry [.ref h0] hlen)
section KC
variable {p : Program} {l : Launch} {e : Env} {R : Room} {s : State} {m : MethodId} {args : Array Value} {below : List Frame} {meth : Method} {c : Code} {H : Heap} {locs : List Loc} {cells slots : Nat} {Q : State → Prop}
variable {D : va_G} {cI cM : ClassId} {cc : ByteArray} {nL : Nat} {Ts : List Cond} {own : String} {pc : Nat} {ls : Array Slot} {rest st0 As : List Value}
theorem kNewa {ws : va_W} {A : Nat → Prop} {H0 : Heap} (hexec : p.tables.exec = Jvm.exec) (hb : c.code = cc) (harr : (Cond.arrayClass .int).before args s = true) (hK : KK D cI cM s) (hP : va_P D vwCl ws H) (hD : va_D A ws) (hS : va_S A H0 H locs) (hA : ∀ q, H0.size ≤ q → A q) {n : Int32} {N : Nat} (hn : ¬ n < 0) (hN : n.toNatClampNeg = N) (hbytes : N * componentBytes .int ≤ 536870912) (hcells : cells + 1 ≤ R.cells) (hslots : slots + N ≤ R.slots) (hdg : decode cc pc = .ok (.newarray .int, 2))
    (kk : ∀ (q : Nat) (H1 : Heap), va_P D vwCl (ws ++ [(q, .inl (cI, N, .inl (fun _ => 0)))]) H1 → va_D A (ws ++ [(q, .inl (cI, N, .inl (fun _ => 0)))]) → va_S A H0 H1 locs → W p l e R s m args below meth c H1 locs (cells + 1) (slots + N) Q (F0 m (pc + 2) ls (.ref q :: rest))) : W p l e R s m args below meth c H locs cells slots Q (F0 m pc ls (.int n :: rest)) := by
  have ha : ∀ cA : ClassId, vp_cell cA (N, .inl (fun _ => 0)) = arrV cA N (fun _ => defaultValue .int) := fun cA => by rw [vp_cell_i]; rfl
  refine va_newa (atype := .int) (ty := .int) (N' := N) (a0 := (N, .inl (fun _ => 0))) hexec hb harr rfl hK.1 hP hD hS hA ha hn hN hbytes hcells hslots hdg (fun q cA H1 hK' hP' hD' hS' => ?_)
  have h1 : s.vm.findClass ("[" ++ FieldType.int.toString) = some cI := (hK'.2 0 (cI, .int) rfl).2
  have h2 : s.vm.findClass ("[" ++ FieldType.int.toString) = some cA := (hK'.2 2 (cA, .int) rfl).2
  have e : cA = cI := Option.some.inj (h2.symm.trans h1)
  subst e
  exact kk q H1 hP' hD' hS'
theorem kc_pre {h0 sz : Nat} {w : va_W} (hsz : H.size = sz) (hP : va_P D vwCl w H) (hK : KK D cI cM s) (hAO : va_AO RX6 s) : PreS s H (va_Pc [.ref h0] (fun U => U.heap.size = sz ∧ va_P D vwCl w U.heap ∧ KK D cI cM U ∧ va_AO RX6 U)) [.ref h0] :=
  ⟨fun _ U g mk q => ⟨q.1, q.2.1, q.2.2.1, KK.same (u := U) rfl q.2.2.2.1, va_AO.moved (u := U) (U := U.calling g mk _) (Vm.Alike.refl U.vm) q.2.2.2.2⟩, fun U hU hW => ⟨rfl, by rw [hU]; exact hsz, by rw [hU]; exact hP, hK.warm hW, va_AO.moved hW.alike hAO⟩⟩
theorem kIN_go {A : Nat → Prop} {H0 : Heap} {wr : va_W} {q5 mc ms : Nat} {e0 : va_E} {mk : (Nat → Nat) → va_W} {a : Array Value} (hr : CallRun p l e R s m args below meth c H locs cells slots mc ms (F0 m pc ls st0) rest (CQ D q5 H.size mk a) (fun q => q = q5 ∨ H.size ≤ q))
    (hP : va_P D vwCl (wr ++ [(q5, e0)]) H) (hD : va_D A (wr ++ [(q5, e0)])) (hS : va_S A H0 H locs) (hA : ∀ q, H0.size ≤ q → A q)
    (kk : ∀ (a : Nat → Nat) (H1 : Heap) (locs1 : List Loc), va_P D vwCl (wr ++ mk a) H1 → va_D A (wr ++ mk a) → va_S A H0 H1 locs1 → W p l e R s m args below meth c H1 locs1 (cells + mc) (slots + ms) Q (F0 m (pc + 3) ls rest)) : W p l e R s m args below meth c H locs cells slots Q (F0 m pc ls st0) := by
  intro T hT X
  obtain ⟨v, st₀, t, T', L, h0, X', hL, e1, ⟨hv, ⟨a, hP1, hD1⟩, hz, hk⟩, st⟩ := hr T hT X
  cases hv
  rw [h0] at hz hk
  have hDi := va_D_iff.mp hD
  rw [List.map_append, List.nodup_append] at hDi
  have hA5 : A q5 := hDi.2 (q5, e0) (List.mem_append_right _ List.mem_cons_self)
  have hsub : ∀ q, (q = q5 ∨ H.size ≤ q) → A q := fun q hq => hq.elim (fun h => by rw [h]; exact hA5) (fun h => hA q (Nat.le_trans hS.1 h))
  have hold : ∀ q ∈ wr, q.1 < H.size ∧ ¬ (q.1 = q5 ∨ H.size ≤ q.1) := fun q hq => by
    obtain ⟨k, hkq⟩ := List.getElem?_of_mem hq
    have hlt := (hP.left k q hkq).lt
    refine ⟨hlt, fun h => ?_⟩
    rcases h with h | h
    · exact hDi.1.2.2 q.1 (List.mem_map.mpr ⟨q, hq, rfl⟩) q5 (by simp) h
    · omega
  have hPr : va_P D vwCl wr t.heap := fun k q hq => by
    have h2 := hold q (List.mem_of_getElem? hq)
    exact (hP.left k q hq).kept (hk q.1 h2.1 h2.2)
  have hD1i := va_D_iff.mp hD1
  obtain ⟨t2, a1, b1⟩ := kk a T'.heap (locs ++ L) (by rw [e1]; exact va_P.app hPr hP1)
    (va_D_iff.mpr ⟨by
      rw [List.map_append, List.nodup_append]
      refine ⟨hDi.1.1, hD1i.1, fun x hx y hy hxy => ?_⟩
      obtain ⟨q, hq, rfl⟩ := List.mem_map.mp hx
      obtain ⟨q', hq', rfl⟩ := List.mem_map.mp hy
      have hxy : q.1 = q'.1 := hxy
      have h3 := hD1i.2 q' hq'
      rw [← hxy] at h3
      exact (hold q hq).2 h3, fun q hq => by
      rcases List.mem_append.mp hq with h | h
      · exact hDi.2 q (List.mem_append_left _ h)
      · exact hsub _ (hD1i.2 q h)⟩)
    ⟨Nat.le_trans hS.1 (by rw [e1]; exact hz), fun q h1 h2 => by rw [e1, hk q (Nat.lt_of_lt_of_le h1 hS.1) (fun z => h2 (hsub q z))]; exact hS.2.1 q h1 h2, fun q hq => by
      rcases List.mem_append.mp hq with h | h
      · exact hS.2.2 q h
      · exact hsub _ (hL q h)⟩ T' rfl X'
  exact ⟨t2, st t2 a1, b1⟩
/-- a private constructor of a nest mate -/
theorem kINn {y : MethodName} {bytes : ByteArray} {maxL : Nat} {wsy : List Cond} {rm : Room} {n index mc ms : Nat} {q5 : Nat} {e0 : va_E} {wr : va_W} {mk : (Nat → Nat) → va_W} {A : Nat → Prop} {H0 : Heap} (S : CallFix p m c cc nL s args Ts own) (hK : KK D cI cM s) (hAO : va_AO RX6 s)
    (hM : CM l y wsy rm D cI cM q5 H.size [(q5, e0)] mk mc ms) (cw : va_CN R s args own index y RX8 bytes maxL none wsy rm mc ms 0 ∧ y.name = "<init>" ∧ (Cond.instanceMethod y).before args s = true) (hP : va_P D vwCl (wr ++ [(q5, e0)]) H) (hD : va_D A (wr ++ [(q5, e0)])) (hS : va_S A H0 H locs) (hA : ∀ q, H0.size ≤ q → A q) (hsize : ls.size = nL) (hst : st0 = .ref q5 :: rest) (hW : (rest.map fun v => v.category).sum ≤ 8)
    (hdg : decode cc pc = .ok (.invokespecial index, 3)) (hf : cells + mc ≤ R.cells ∧ slots + ms ≤ R.slots)
    (kk : ∀ (a : Nat → Nat) (H1 : Heap) (locs1 : List Loc), va_P D vwCl (wr ++ mk a) H1 → va_D A (wr ++ mk a) → va_S A H0 H1 locs1 → W p l e R s m args below meth c H1 locs1 (cells + mc) (slots + ms) Q (F0 m (pc + 3) ls rest)) : W p l e R s m args below meth c H locs cells slots Q (F0 m pc ls st0) := by
  unfold CM at hM
  exact kIN_go (va_runIN (As := []) (g := F0 m pc ls st0) S hM cw (kc_pre rfl hP.right hK hAO) rfl rfl hsize hst (lv_room hW) hdg hf).run hP hD hS hA kk
/-- a constructor that is no private one -/
theorem kINo {y : MethodName} {bytes : ByteArray} {maxL : Nat} {wsy : List Cond} {rm : Room} {n index mc ms : Nat} {q5 : Nat} {e0 : va_E} {wr : va_W} {mk : (Nat → Nat) → va_W} {A : Nat → Prop} {H0 : Heap} (S : CallFix p m c cc nL s args Ts own) (hK : KK D cI cM s) (hAO : va_AO RX6 s)
    (hM : CM l y wsy rm D cI cM q5 H.size [(q5, e0)] mk mc ms) (cw : CallB R s args own index y bytes maxL none wsy rm mc ms 0 ∧ y.name = "<init>" ∧ (Cond.instanceMethod y).before args s = true) (hP : va_P D vwCl (wr ++ [(q5, e0)]) H) (hD : va_D A (wr ++ [(q5, e0)])) (hS : va_S A H0 H locs) (hA : ∀ q, H0.size ≤ q → A q) (hsize : ls.size = nL) (hst : st0 = .ref q5 :: rest) (hW : (rest.map fun v => v.category).sum ≤ 8)
    (hdg : decode cc pc = .ok (.invokespecial index, 3)) (hf : cells + mc ≤ R.cells ∧ slots + ms ≤ R.slots)
    (kk : ∀ (a : Nat → Nat) (H1 : Heap) (locs1 : List Loc), va_P D vwCl (wr ++ mk a) H1 → va_D A (wr ++ mk a) → va_S A H0 H1 locs1 → W p l e R s m args below meth c H1 locs1 (cells + mc) (slots + ms) Q (F0 m (pc + 3) ls rest)) : W p l e R s m args below meth c H locs cells slots Q (F0 m pc ls st0) := by
  unfold CM at hM
  exact kIN_go (W.runI (As := []) (g := F0 m pc ls st0) S hM cw (kc_pre rfl hP.right hK hAO) rfl rfl hsize hst (lv_room hW) hdg hf) hP hD hS hA kk
/-- the end of a constructor -/
theorem kRetC {h0 sz mc ms : Nat} {mk : (Nat → Nat) → va_W} (hexec : p.tables.exec = Jvm.exec) (hb : c.code = cc) (hr : meth.sig.returnType = none) (hlocks : meth.locks = false) (a : Nat → Nat) (hP : va_P D vwCl (mk a) H) (hD : va_D (fun q => q = h0 ∨ sz ≤ q) (mk a)) (hS : va_S (fun q => q = h0 ∨ sz ≤ q) s.heap H locs) (hc : cells ≤ mc) (hs : slots ≤ ms) (hdg : decode cc pc = .ok (.return_, 1)) : W p l e R s m [Value.ref h0].toArray below meth c H locs cells slots (MQ below (CQ D h0 sz mk) [Value.ref h0].toArray s mc ms (fun q => q = h0 ∨ sz ≤ q)) (F0 m pc ls []) :=
  W.widen hc hs (W.vret hexec hb hr (fun t ht _ => ⟨rfl, ⟨a, by rw [ht]; exact hP, hD⟩, hS.F ht⟩) hS.2.2 hdg hlocks)
end KC
theorem cell_eqq {cM : ClassId} {n : Nat} {f g : Nat → Option Nat} (h : ∀ k, k < n → f k = g k) : vp_cell cM (n, .inr (.inr (.inr (.inr f)))) = vp_cell cM (n, .inr (.inr (.inr (.inr g)))) := by
  rw [vp_cell_q, vp_cell_q]
  unfold arrV
  have e : Array.ofFn (n := n) (fun j => va_rf (f j.val)) = Array.ofFn (n := n) (fun j => va_rf (g j.val)) := congrArg _ (funext fun j => by rw [h j.1 j.2])
  exact congrArg (fun s => ({ cls := cM, slots := s, vm := .none } : Cell)) e
abbrev z1 : Nat → Int32 := fun _ => 0
abbrev MS0 : MS := (0, 0, z1, 0, z1, z1, z1, z1, z1, 0, 0, z1, z1, z1, z1, z1, z1, z1, z1, z1, z1, z1)
abbrev rmX7_init : Room := { frames := 1, cells := 1, slots := 8, locals := 12 }
set_option maxHeartbeats 16000000 in
set_option maxRecDepth 100000 in
theorem kX7_init (l : Launch) (D : va_G) (cI cM : ClassId) (h0 sz : Nat) : CM l yX7_init wsX7_init rmX7_init D cI cM h0 sz [(h0, .inr (7, [.int 0, .int 0, .null]))] (fun a => B_t cI cM h0 (a 0) 0 0 z1) 1 8 := by
  refine CM.of (cc := cX7_init) (maxL := 1) (by decide) rfl rfl (Nat.le_of_ble_eq_true rfl) ?_
  intro p e s m below meth c ls hx hb hr hml hown hts hlk hin hsz hKK hAO hP hD hS hA hl
  have hown : s.vm.findClass RX7 = some m.cls := hown
  have SS : CallFix p m c cX7_init 1 s [Value.ref h0].toArray wsX7_init RX7 := ⟨hx, hb, hml, hown, hts⟩
  have hinX7 : ∀ w ∈ u_ws RX7 TX7 3, w ∈ wsX7_init := by decide +kernel
  refine lv_aload_n hx hb dX7_init_0 rfl (lv_at hl 0 rfl) ?_
  refine W.objInit hx hb hown (hts (.methodLink RX7 3 objectInit) (List.mem_of_getElem? (i := 1) rfl)) (hts (.instanceMethod objectInit) (List.mem_of_getElem? (i := 2) rfl)) (hts (.code objectInit ⟨#[0xb1]⟩ 1 none) (List.mem_of_getElem? (i := 3) rfl)) rfl (by rw [hml]; exact hl.1) rfl dX7_init_1 (Nat.le_of_ble_eq_true rfl) (Nat.le_of_ble_eq_true rfl) ?_
  refine W.eq (g2 := F0 m 4 ls []) rfl ?_
  refine lv_aload_n hx hb dX7_init_4 rfl (lv_at hl 0 rfl) ?_
  refine lv_bipush (v := 8) hx hb dX7_init_5 (by decide) ?_
  refine kNewa (N := 8) hx hb (hts (.arrayClass .int) (List.mem_of_getElem? (i := 4) rfl)) hKK hP hD hS hA (by decide) rfl (Nat.le_of_ble_eq_true rfl) (Nat.le_of_ble_eq_true rfl) (Nat.le_of_ble_eq_true rfl) dX7_init_7 (fun q1 H hP hD hS => ?_)
  refine W.widen (k := 1) (n := 8) (Nat.le_of_ble_eq_true rfl) (Nat.le_of_ble_eq_true rfl) ?_
  have hP : va_P D vwCl ([(h0, .inr (7, [.int 0, .int 0, .null])), (q1, .inl (cI, 8, .inl z1))]) H := hP
  have hD : va_D _ ([(h0, .inr (7, [.int 0, .int 0, .null])), (q1, .inl (cI, 8, .inl z1))]) := hD
  refine va_putF (D := D) (ci := 7) (v := .ref q1) (ty := .array .int) (C := RX7) (T := TX7) (N := 3) hx hb hts hinX7 tyX7 tyX7_ok nmX7 hown hKK.1 hP hD hS 0 rfl rfl 2 (by decide) (hts (.fieldLink RX7 9 "SignatureChanger$Types" "supertypes" "[I") (List.mem_of_getElem? (i := 5) rfl)) (fun _ h9 => h9) rfl hin rfl (by decide +kernel) rfl rfl (Nat.le_of_ble_eq_true rfl) dX7_init_9 (fun H locs hP hD hS => ?_)
  have hP : va_P D vwCl ([(h0, .inr (7, [.int 0, .int 0, .ref q1])), (q1, .inl (cI, 8, .inl z1))]) H := hP
  have hD : va_D _ ([(h0, .inr (7, [.int 0, .int 0, .ref q1])), (q1, .inl (cI, 8, .inl z1))]) := hD
  exact kRetC hx hb hr hlk (fun k => match k with | 0 => q1 | _ => 0) hP hD hS (Nat.le_of_ble_eq_true rfl) (Nat.le_of_ble_eq_true rfl) dX7_init_12
