/-! all calls rewritten -/
theorem bn8_s {α a0 a1 a2 a3 a4 a5 a6 a7 : Type} {x0 : a0} {x1 : a1} {x2 : a2} {x3 : a3} {x4 : a4} {x5 : a5} {x6 : a6} {x7 : a7} {k : a0 → a1 → a2 → a3 → a4 → a5 → a6 → a7 → Option α} : bn8 (some (x0, x1, x2, x3, x4, x5, x6, x7)) k = k x0 x1 x2 x3 x4 x5 x6 x7 := rfl
theorem fkd_congr {b n x : Nat} {kd kd' kp : Nat → Int32} (hn : n ≤ 5) (h : ∀ i, i < n → kd i = kd' i) (hkp : kp x = -9 ∨ ∃ j, j < n ∧ kp x = nI j) : fkd b kd kp x = fkd b kd' kp x := by
  unfold fkd hkd
  rcases hkp with q | ⟨j, hj, q⟩
  · rw [if_pos q, if_pos q]
  · rw [q, Nn_nI (by omega), h j hj]
theorem fvl_congr {b n x t0 : Nat} {vl vl' kp ed : Nat → Int32} (hn : n ≤ 5) (h : ∀ i, i < n → vl i = vl' i) (hkp : kp x = -9 ∨ ∃ j, j < n ∧ kp x = nI j) : fvl b t0 vl kp ed x = fvl b t0 vl' kp ed x := by
  unfold fvl hvl
  rcases hkp with q | ⟨j, hj, q⟩
  · rw [if_pos q, if_pos q]
  · rw [q, Nn_nI (by omega), h j hj]
theorem RW_base {s u s' : Nat → Int32} {c n b e : Nat} {kp ek ed : Nat → Int32} (hn : n ≤ 5) (h8 : cN s c ≤ 8) (hkp : ∀ x, x < e → kp x = -9 ∨ ∃ j, j < n ∧ kp x = nI j) (hrow : ∀ w, w < 29 → rC u c w = rC s c w) (h : RW u s' c n b e kp ek ed) : RW s s' c n b e kp ek ed := by
  have hN : cN u c = cN s c := by unfold cN; rw [hrow 20 (by decide)]
  obtain ⟨h1, h2, h3, h4, h5, h6⟩ := h
  rw [hN] at h3 h4 h5 h6
  refine ⟨fun w hw => (h1 w hw).trans (hrow w (by omega)), h2, h3, fun x hx => ?_, fun j hj => (h5 j hj).trans (hrow _ (by omega)), fun i hi ht => (h6 i hi ht).trans (hrow _ (by omega))⟩
  obtain ⟨q1, q2, q3⟩ := h4 x hx
  refine ⟨q1.trans (fkd_congr hn (fun i hi => ?_) (hkp x hx)), q2.trans (fvl_congr hn (fun i hi => ?_) (hkp x hx)), q3⟩
  · exact hrow (5 + i) (by omega)
  · exact hrow (10 + i) (by omega)
section RA
variable {s : Nat → Int32} {nt nm nc m e : Nat} {t_count t_ifs : Int32} {t_sup : Nat → Int32} {m_count : Int32} {m_type m_name m_arity m_keys m_defs : Nat → Int32} {k_count k_fs : Int32} {k_st k_dy k_tg k_ac k_tc k_keys k_kinds k_vals k_tk k_nk k_nv : Nat → Int32} {d_method d_family d_old d_kept d_count d_used : Int32} {d_src d_keys d_defs : Nat → Int32} {ch en : Int32} {kp ek ed : Nat → Int32}
/-- what holds of the choice for each rewritten call -/
def HBd (s : Nat → Int32) (nt nm nc m n e : Nat) (kp : Nat → Int32) (hb : Nat → Nat) : Prop := ∀ c, c < nc → ¬ rC s c 3 = 1 → cnc s nt nm m c → hb c < 2 ^ n ∧ cN s c + cnt (nI (hb c)) n ≤ 8 ∧ cA s c = n ∧ ∀ s' : Nat → Int32, (∀ w, w < 29 → rC s' c w = rC s c w) → fX9_hoistedOf s' (nI e) kp (nI c) = some (nI (hb c))
theorem ref_rewrite_all (hm : WFM s nt nm) (hk : WFC s nt nm nc) {n : Nat} (hn : n ≤ 5) (he : e ≤ 5) {hb : Nat → Nat} (HB : HBd s nt nm nc m n e kp hb) (hkp : ∀ x, x < e → kp x = -9 ∨ ∃ j, j < n ∧ kp x = nI j) {f R : Int32} (hf : ∀ k, tb f k = true ↔ fam s nt nm m k) (hR : ∀ c, tb R c = true ↔ c < nc ∧ ¬ rC s c 3 = 1 ∧ cnc s nt nm m c) (past : Nat → Int32) (p ch : Int32) (kz nz : Nat → Int32) : ∃ u kz' nz', lX9_applyChange_63 (nI e) kp ek ed 5000 s past p ch kz nz f 0 0 = lX9_applyChange_122 (nI e) kp ek ed 5000 u past p ch kz' nz' f (nI (cnt R nc)) 0 ∧ (∀ j, (j < 235 ∨ 467 ≤ j) → u j = s j) ∧ (∀ c, c < nc → tb R c = true → RW s u c n (hb c) e kp ek ed) ∧ ∀ c, c < nc → ¬ tb R c = true → ∀ w, w < 29 → rC u c w = rC s c w := by
  have h8 := hk.1
  have h16 := hm.1
  have key : ∀ k i u kz nz, i ≤ nc → nc - i < k → (∀ j, (j < 235 ∨ 467 ≤ j) → u j = s j) → (∀ c, c < nc → tb R c = true → c < i → RW s u c n (hb c) e kp ek ed) → (∀ c, c < nc → (¬ tb R c = true ∨ i ≤ c) → ∀ w, w < 29 → rC u c w = rC s c w) → ∃ u' kz' nz', lX9_applyChange_63 (nI e) kp ek ed k u past p ch kz nz f (nI (cnt R i)) (nI i) = lX9_applyChange_122 (nI e) kp ek ed 5000 u' past p ch kz' nz' f (nI (cnt R nc)) 0 ∧ (∀ j, (j < 235 ∨ 467 ≤ j) → u' j = s j) ∧ (∀ c, c < nc → tb R c = true → RW s u' c n (hb c) e kp ek ed) ∧ ∀ c, c < nc → ¬ tb R c = true → ∀ w, w < 29 → rC u' c w = rC s c w := by
    intro k
    induction k with
    | zero => intro i u kz nz _ h; omega
    | succ k ih =>
      intro i u kz nz hi hnn i1 i2 i3
      rw [lX9_applyChange_63_s, rd_l234, i1 234 (by omega), hk.2.1]
      by_cases hlt : i < nc
      · have W := hk.2.2 i hlt
        have t' := W.tg'
        have row := i3 i hlt (Or.inr (Nat.le_refl i))
        rw [if_neg (up_i (by omega) hlt)]
        unfold fX9_isFrozen
        rw [e_at3, bn_s, rd_C (by omega) (by decide), row 3 (by decide)]
        by_cases g1 : rC s i 3 = 1
        · have nR : ¬ tb R i = true := fun q => ((hR i).mp q).2.1 g1
          have hc := cnt_n nR
          rw [if_pos g1, bn_s, if_neg (by decide), nI_1, ← hc]
          exact ih (i + 1) u kz nz (by omega) (by omega) i1 (fun c hc ht hci => by
            by_cases z : c = i
            · subst z
              exact absurd ht nR
            · exact i2 c hc ht (by omega)) (fun c hc h => i3 c hc (h.elim Or.inl (fun q => Or.inr (by omega))))
        · rw [if_neg g1, bn_s, if_pos rfl, e_at2, bn_s, rd_C (by omega) (by decide), row 2 (by decide), W.tg]
          obtain ⟨r, hr, hrb⟩ := e_has f (k := cG s i) (by omega)
          rw [hr, bn_s]
          by_cases g2 : cnc s nt nm m i
          · have yR : tb R i = true := (hR i).mpr ⟨hlt, g1, g2⟩
            have hc := cnt_s yR
            rw [if_neg (fun q => (isb_0 hrb).mp q ((hf _).mpr g2))]
            obtain ⟨b1, b2, b3, b4⟩ := HB i hlt g1 g2
            have hN : cN u i = cN s i := by unfold cN; rw [row 20 (by decide)]
            obtain ⟨u', K, N, e1, e2, e3⟩ := e_rewrite9 (s := u) (c := i) (n := n) (b := hb i) (e := e) (kp := kp) (ek := ek) (ed := ed) (by omega) hn he (by rw [row 4 (by decide), W.ar, b3]) (by rw [row 20 (by decide), W.tn, hN]) (by rw [hN]; exact b2) hkp (b4 u row) kz nz
            rw [e1, bn3_s, nI_1, nI_1, ← hc]
            refine ih (i + 1) u' K N (by omega) (by omega) (fun j hj => ?_) (fun c hcc ht hci => ?_) (fun c hcc h w hw => ?_)
            · rw [e2 j (by omega)]
              exact i1 j hj
            · by_cases z : c = i
              · subst z
                exact RW_base hn W.tn' hkp row e3
              · have q := i2 c hcc ht (by omega)
                have W2 := hk.2.2 c hcc
                have t8 := W2.tn'
                obtain ⟨q1, q2, q3, q4, q5, q6⟩ := q
                have B2 := (HB c hcc ((hR c).mp ht).2.1 ((hR c).mp ht).2.2).2.1
                have eq : ∀ w, w < 29 → rC u' c w = rC u c w := fun w hw => e2 _ (by omega)
                refine ⟨fun w hw => by rw [eq w (by omega)]; exact q1 w hw, by rw [eq 4 (by decide)]; exact q2, by rw [eq 20 (by decide)]; exact q3, fun x hx => ?_, fun j hj => by rw [eq _ (by omega)]; exact q5 j hj, fun i' hi' ht' => ?_⟩
                · rw [eq (5 + x) (by omega), eq (10 + x) (by omega), eq (15 + x) (by omega)]
                  exact q4 x hx
                · have m2 := cnt_mono (nI (hb c)) (i := i' + 1) (n := n) hi'
                  rw [cnt_s ht'] at m2
                  rw [eq _ (by omega)]
                  exact q6 i' hi' ht'
            · rw [show rC u' c w = rC u c w from e2 _ (by
                rcases h with q | q
                · have : c ≠ i := fun z => q (by rw [z]; exact yR)
                  omega
                · omega)]
              exact i3 c hcc (h.elim Or.inl (fun q => Or.inr (by omega))) w hw
          · have nR : ¬ tb R i = true := fun q => g2 ((hR i).mp q).2.2
            have hc := cnt_n nR
            rw [if_pos ((isb_0 hrb).mpr (fun q => g2 ((hf _).mp q))), nI_1, ← hc]
            exact ih (i + 1) u kz nz (by omega) (by omega) i1 (fun c hc ht hci => by
              by_cases z : c = i
              · subst z
                exact absurd ht nR
              · exact i2 c hc ht (by omega)) (fun c hc h => i3 c hc (h.elim Or.inl (fun q => Or.inr (by omega))))
      · have e1 : i = nc := by omega
        subst e1
        rw [if_pos (up_N (by omega))]
        exact ⟨u, kz, nz, rfl, i1, fun c hc ht => i2 c hc ht hc, fun c hc h => i3 c hc (Or.inl h)⟩
  exact key 5000 0 s kz nz (Nat.zero_le _) (by omega) (fun _ _ => rfl) (fun c _ _ h => absurd h (Nat.not_lt_zero c)) (fun _ _ _ _ _ => rfl)
/-- the class's rows: rewritten, or as before -/
def CWr (s : Nat → Int32) (c n b e : Nat) (kp ek ed : Nat → Int32) (k_tk ac tc ky K V T : Nat → Int32) : Prop := ac c = nI e ∧ tc c = nI (cN s c + cnt (nI b) n) ∧ (∀ x, x < e → ky (c * 5 + x) = ek x ∧ K (c * 5 + x) = fkd b (rwK s c) kp x ∧ V (c * 5 + x) = fvl b (cN s c) (rwV s c) kp ed x) ∧ (∀ j, j < cN s c → T (c * 8 + j) = k_tk (c * 8 + j)) ∧ ∀ i, i < n → tb (nI b) i = true → T (c * 8 + (cN s c + cnt (nI b) i)) = rC s c (5 + i)
def CUr (c : Nat) (k_ac k_tc k_keys k_kinds k_vals k_tk ac tc ky K V T : Nat → Int32) : Prop := ac c = k_ac c ∧ tc c = k_tc c ∧ (∀ x, x < 5 → ky (c * 5 + x) = k_keys (c * 5 + x) ∧ K (c * 5 + x) = k_kinds (c * 5 + x) ∧ V (c * 5 + x) = k_vals (c * 5 + x)) ∧ ∀ j, j < 8 → T (c * 8 + j) = k_tk (c * 8 + j)
theorem cls_rewrite_all (hk : WFC s nt nm nc) (ck : CK s nc k_count k_fs k_st k_dy k_tg k_ac k_tc k_keys k_kinds k_vals k_tk) {n : Nat} (hn : n ≤ 5) (he : e ≤ 5) {hb : Nat → Nat} (HB : HBd s nt nm nc m n e kp hb) (hsrc : ∀ x, x < e → (d_src x = -1 ∧ kp x = -9) ∨ ∃ j, j < n ∧ d_src x = nI j ∧ kp x = nI j) (hent : ∀ x, x < e → d_keys x = ek x ∧ d_defs x = ed x) {R : Int32} (hR : ∀ c, tb R c = true ↔ c < nc ∧ ¬ rC s c 3 = 1 ∧ cnc s nt nm m c) {hoc : Nat → Int32} (hh : ∀ c, c < nc → ¬ rC s c 3 = 1 → cnc s nt nm m c → hoc c = nI (hb c)) (nk nv : Nat → Int32) : ∃ ac tc ky K V T nk' nv', fX0_rewrite k_count k_ac k_tc k_keys k_kinds k_vals k_tk nk nv hoc (nI e) d_src d_keys d_defs R = some (ac, tc, ky, K, V, T, nk', nv') ∧ (∀ c, c < nc → tb R c = true → CWr s c n (hb c) e kp ek ed k_tk ac tc ky K V T) ∧ ∀ c, c < nc → ¬ tb R c = true → CUr c k_ac k_tc k_keys k_kinds k_vals k_tk ac tc ky K V T := by
  have h8 := hk.1
  have hcn : k_count = nI nc := ck.n
  unfold fX0_rewrite
  have key : ∀ k i ac tc ky K V T nk nv, i ≤ nc → nc - i < k → (∀ c, c < nc → tb R c = true → c < i → CWr s c n (hb c) e kp ek ed k_tk ac tc ky K V T) → (∀ c, c < nc → (¬ tb R c = true ∨ i ≤ c) → CUr c k_ac k_tc k_keys k_kinds k_vals k_tk ac tc ky K V T) → ∃ ac' tc' ky' K' V' T' nk' nv', lX0_rewrite_3 k_count hoc (nI e) d_src d_keys d_defs k ac tc ky K V T nk nv R (nI i) = some (ac', tc', ky', K', V', T', nk', nv') ∧ (∀ c, c < nc → tb R c = true → CWr s c n (hb c) e kp ek ed k_tk ac' tc' ky' K' V' T') ∧ ∀ c, c < nc → ¬ tb R c = true → CUr c k_ac k_tc k_keys k_kinds k_vals k_tk ac' tc' ky' K' V' T' := by
    intro k
    induction k with
    | zero => intro i ac tc ky K V T nk nv _ h; omega
    | succ k ih =>
      intro i ac tc ky K V T nk nv hi hnn i2 i3
      rw [lX0_rewrite_3_s]
      by_cases hlt : i < nc
      · have W := hk.2.2 i hlt
        have Kc := ck.c i hlt
        have t8 := W.tn'
        obtain ⟨c1, c2, c3, c4⟩ := i3 i hlt (Or.inr (Nat.le_refl i))
        rw [if_neg (by rw [hcn]; exact up_i (by omega) hlt)]
        obtain ⟨r1, hr1, hb1⟩ := e_contains R (k := i) (by omega)
        rw [hr1, bn_s]
        by_cases g : tb R i = true
        · obtain ⟨-, g1, g2⟩ := (hR i).mp g
          obtain ⟨b1, b2, b3, b4⟩ := HB i hlt g1 g2
          rw [if_neg (fun q => (isb_0 hb1).mp q g), rd_nI (by omega) (by decide), hh i hlt g1 g2]
          obtain ⟨tc', K', V', T', e1, f1, f2, f3, f4, f5, f6⟩ := cl_hoist (c := i) (n := n) (b := hb i) (t0 := cN s i) (kd := rwK s i) (vl := rwV s i) (by omega) hn b2 (ac := ac) (by rw [c1, Kc.ac, W.ar, b3]) tc K V T (by rw [c2, Kc.tc, W.tn]) (fun x hx => by
            rw [(c3 x (by omega)).2.1, (c3 x (by omega)).2.2, Kc.kd x (by omega), Kc.vl x (by omega)]
            exact ⟨rfl, rfl⟩)
          rw [e1, bn4_s]
          obtain ⟨ky', K'', V'', nk', nv', e2, f7, f8⟩ := cl_rearrange (c := i) (n := n) (b := hb i) (t0 := cN s i) (kd := rwK s i) (vl := rwV s i) (ed := ed) (by omega) hn he hsrc hent ac ky K' V' nk nv f4
          rw [e2, bn6_s, nI_1]
          refine ih (i + 1) _ tc' ky' K'' V'' T' nk' nv' (by omega) (by omega) (fun c hc ht hci => ?_) (fun c hc h => ?_)
          · by_cases z : c = i
            · subst z
              refine ⟨upd_s, f2, f8, fun j hj => ?_, f6⟩
              rw [f5 _ (by omega)]
              exact c4 j (by omega)
            · obtain ⟨q1, q2, q3, q4, q5⟩ := i2 c hc ht (by omega)
              have W2 := hk.2.2 c hc
              have t82 := W2.tn'
              have B2 := (HB c hc ((hR c).mp ht).2.1 ((hR c).mp ht).2.2).2.1
              refine ⟨by rw [upd_n z]; exact q1, by rw [f1 c z]; exact q2, fun x hx => ?_, fun j hj => ?_, fun i' hi' ht' => ?_⟩
              · obtain ⟨w1, w2, w3⟩ := f7 (c * 5 + x) (by omega)
                obtain ⟨v1, v2⟩ := f3 (c * 5 + x) (by omega)
                rw [w1, w2, w3, v1, v2]
                exact q3 x hx
              · rw [f5 _ (by omega)]
                exact q4 j hj
              · have m2 := cnt_mono (nI (hb c)) (i := i' + 1) (n := n) hi'
                rw [cnt_s ht'] at m2
                rw [f5 _ (by omega)]
                exact q5 i' hi' ht'
          · have z : c ≠ i := by
              rcases h with q | q
              · exact fun z => q (by rw [z]; exact g)
              · omega
            obtain ⟨q1, q2, q3, q4⟩ := i3 c hc (h.elim Or.inl (fun q => Or.inr (by omega)))
            refine ⟨by rw [upd_n z]; exact q1, by rw [f1 c z]; exact q2, fun x hx => ?_, fun j hj => ?_⟩
            · obtain ⟨w1, w2, w3⟩ := f7 (c * 5 + x) (by omega)
              obtain ⟨v1, v2⟩ := f3 (c * 5 + x) (by omega)
              rw [w1, w2, w3, v1, v2]
              exact q3 x hx
            · rw [f5 _ (by omega)]
              exact q4 j hj
        · rw [if_pos ((isb_0 hb1).mpr g), nI_1]
          exact ih (i + 1) ac tc ky K V T nk nv (by omega) (by omega) (fun c hc ht hci => by
            by_cases z : c = i
            · subst z
              exact absurd ht g
            · exact i2 c hc ht (by omega)) (fun c hc h => i3 c hc (h.elim Or.inl (fun q => Or.inr (by omega))))
      · have e1 : i = nc := by omega
        subst e1
        rw [if_pos (by rw [hcn]; exact up_N (by omega))]
        exact ⟨ac, tc, ky, K, V, T, nk, nv, rfl, fun c hc ht => i2 c hc ht hc, fun c hc h => i3 c hc (Or.inl h)⟩
  exact key 5000 0 k_ac k_tc k_keys k_kinds k_vals k_tk nk nv (Nat.zero_le _) (by omega) (fun c _ _ h => absurd h (Nat.not_lt_zero c)) (fun c _ _ => ⟨rfl, rfl, fun _ _ => ⟨rfl, rfl, rfl⟩, fun _ _ => rfl⟩)
end RA
