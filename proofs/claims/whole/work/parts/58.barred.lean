/-! applyChange: barred calls, room -/
section BA
variable {s : Nat → Int32} {nt nm nc m e : Nat} {t_count t_ifs : Int32} {t_sup : Nat → Int32} {m_count : Int32} {m_type m_name m_arity m_keys m_defs : Nat → Int32} {k_count k_fs : Int32} {k_st k_dy k_tg k_ac k_tc k_keys k_kinds k_vals k_tk k_nk k_nv : Nat → Int32} {d_method d_family d_old d_kept d_count d_used : Int32} {d_src d_keys d_defs : Nat → Int32} {ch en : Int32} {kp ek ed : Nat → Int32}
def sameK (s : Nat → Int32) (m e : Nat) (ek : Nat → Int32) : Prop := ∀ i, i < e → ek i = rM s m (3 + i)
theorem e_hasSameKeys (hm : WFM s nt nm) (hmm : m < nm) (he : e ≤ 5) (ek : Nat → Int32) : ∃ r, fX9_hasSameKeys s (nI m) (nI e) ek = some r ∧ isb r (e = nA s m ∧ sameK s m e ek) := by
  have h16 := hm.1
  obtain ⟨w1, w2, w3, w4, w5, w6⟩ := hm.2.2 m hmm
  unfold fX9_hasSameKeys jX9_hasSameKeys_21
  rw [e_of2 (by omega), bn_s, w3]
  have key : ∀ n i (y : Int32) (A : Prop), i ≤ e → e - i < n → isb y (A ∧ ∀ j, j < i → ek j = rM s m (3 + j)) → ∃ r, lX9_hasSameKeys_24 s (nI m) (nI e) ek n y (nI i) = some r ∧ isb r (A ∧ sameK s m e ek) := by
    intro n
    induction n with
    | zero => intro i y A _ h; omega
    | succ n ih =>
      intro i y A hi hn hy
      rw [lX9_hasSameKeys_24_s]
      by_cases hlt : i < e
      · rw [if_neg (up_i (by omega) hlt)]
        rcases hy with ⟨rfl, hp⟩ | ⟨rfl, hp⟩
        · rw [if_neg (by decide), rd_nI (by omega) (by decide), o3, e_of (w := 3 + i) (by omega) (by omega) rfl, bn_s]
          unfold jX9_hasSameKeys_61
          by_cases g : ek i = rM s m (3 + i)
          · rw [if_pos g, nI_1]
            exact ih (i + 1) 1 A (by omega) (by omega) (isb_t ⟨hp.1, all_succ.mpr ⟨hp.2, g⟩⟩)
          · rw [if_neg g, nI_1]
            exact ih (i + 1) 0 A (by omega) (by omega) (isb_f (fun z => g (all_succ.mp z.2).2))
        · rw [if_pos rfl]
          exact ⟨0, rfl, isb_f (fun z => hp ⟨z.1, fun j h => z.2 j (by omega)⟩)⟩
      · have e1 : i = e := by omega
        subst e1
        rw [if_pos (up_N (by omega)), isb_rb hy]
        exact ⟨y, rfl, hy⟩
  by_cases g : e = nA s m
  · rw [if_pos (by rw [g])]
    exact key 5000 0 1 (e = nA s m) (Nat.zero_le _) (by omega) (isb_t ⟨g, fun j h => absurd h (Nat.not_lt_zero j)⟩)
  · rw [if_neg (fun q => g (nI_inj (by omega) (by omega) q))]
    exact key 5000 0 0 (e = nA s m) (Nat.zero_le _) (by omega) (isb_f (fun z => g z.1))
theorem e_keepsWholeList (hm : WFM s nt nm) (D : DO s nt nm m e d_method d_family d_old d_kept d_count d_used d_src d_keys d_defs ch en kp ek ed) (hA : e = nA s m) : ∃ r, fX1_keepsWholeList d_old d_count d_src = some r ∧ isb r (sameK s m e ek) := by
  have h16 := hm.1
  have he := D.e5
  obtain ⟨w1, w2, w3, w4, w5, w6⟩ := hm.2.2 m D.mm
  obtain ⟨E1, E2, E3⟩ := D.de
  unfold fX1_keepsWholeList
  rw [D.od, D.ct, ← hA]
  have := all_k (g := fun n' i => lX1_keepsWholeList_2 (nI e) (nI e) d_src n' i) (N := e) (P := fun i => d_src i = nI i) (R := some 1) (E := some 0) (fun n' i hi => by
    show (d_src i = nI i → lX1_keepsWholeList_2 (nI e) (nI e) d_src (n' + 1) (nI i) = lX1_keepsWholeList_2 (nI e) (nI e) d_src n' (nI i + 1)) ∧ (¬ d_src i = nI i → lX1_keepsWholeList_2 (nI e) (nI e) d_src (n' + 1) (nI i) = some 0)
    rw [lX1_keepsWholeList_2_s, if_neg (up_i (by omega) hi), rd_nI (by omega) (by decide)]
    exact ⟨fun h => if_pos h, fun h => if_neg h⟩) (fun n' => by
    show lX1_keepsWholeList_2 (nI e) (nI e) d_src (n' + 1) (nI e) = some 1
    rw [lX1_keepsWholeList_2_s, if_pos (up_N (by omega)), if_pos rfl]) 5000 0 (Nat.zero_le _) (by omega)
  have hiff : ∀ i, i < e → (d_src i = nI i ↔ ek i = rM s m (3 + i)) := by
    intro i hi
    constructor
    · intro h
      rcases E2 i hi with ⟨q1, -, -⟩ | ⟨j, q1, q2, q3, q4, -⟩
      · rw [q1] at h
        exact absurd h.symm (fun q => nI_pos (n := i) (by omega) (by rw [q]; decide))
      · have := nI_inj (by omega) (by omega) (q2.symm.trans h)
        rw [q4, this]
    · intro h
      rcases E2 i hi with ⟨q1, -, q2⟩ | ⟨j, q1, q2, q3, q4, -⟩
      · exact absurd h.symm (q2 i (by omega))
      · rw [q4, (w5 j q1).1, (w5 i (by omega)).1] at h
        have h := nI_inj (by have := (w5 j q1).2; omega) (by have := (w5 i (by omega)).2; omega) h
        have : j = i := by
          rcases Nat.lt_trichotomy j i with z | z | z
          · exact absurd h (w6 j i z (by omega))
          · exact z
          · exact absurd h.symm (w6 i j z q1)
        rw [q2, this]
  rcases this with ⟨h1, h2⟩ | ⟨⟨t, h1, h2, h3⟩, h4⟩
  · exact ⟨1, h2, isb_t (fun i hi => (hiff i hi).mp (h1 i (Nat.zero_le i) hi))⟩
  · exact ⟨0, h4, isb_f (fun q => h3 ((hiff t h2).mpr (q t h2)))⟩
/-- a frozen call would be called alike by another list -/
def BARd (s : Nat → Int32) (nt nm nc m e : Nat) (ek : Nat → Int32) : Prop := ∃ c, c < nc ∧ (rC s c 3 = 1 ∧ cnc s nt nm m c ∧ e = nA s m ∧ ¬ sameK s m e ek)
theorem e_isBarred (hw : WFT s nt) (hm : WFM s nt nm) (hk : WFC s nt nm nc) (hmm : m < nm) (he : e ≤ 5) (ek : Nat → Int32) : ∃ r, fX9_isBarred s (nI m) (nI e) ek = some r ∧ isb r (BARd s nt nm nc m e ek) := by
  have h8 := hk.1
  have h16 := hm.1
  obtain ⟨w1, w2, w3, w4, w5, w6⟩ := hm.2.2 m hmm
  unfold fX9_isBarred
  refine or0 (g := fun n' y i => lX9_isBarred_4 s (nI m) (nI e) ek n' y i) (N := nc) (P := fun c => rC s c 3 = 1 ∧ cnc s nt nm m c ∧ e = nA s m ∧ ¬ sameK s m e ek) (fun n' i hi => ?_) (fun n' y => ?_) (by omega)
  · show lX9_isBarred_4 s (nI m) (nI e) ek (n' + 1) 1 (nI i) = lX9_isBarred_4 s (nI m) (nI e) ek n' 1 (nI i + 1) ∧ (_ → lX9_isBarred_4 s (nI m) (nI e) ek (n' + 1) 0 (nI i) = lX9_isBarred_4 s (nI m) (nI e) ek n' 1 (nI i + 1)) ∧ (_ → lX9_isBarred_4 s (nI m) (nI e) ek (n' + 1) 0 (nI i) = lX9_isBarred_4 s (nI m) (nI e) ek n' 0 (nI i + 1))
    rw [lX9_isBarred_4_s, lX9_isBarred_4_s, rd_l234' hk, rd_l234' hk, if_neg (up_i (by omega) hi), if_neg (up_i (by omega) hi), if_neg (by decide), if_pos rfl]
    unfold jX9_isBarred_59 jX9_isBarred_63 jX9_isBarred_64
    refine ⟨rfl, ?_⟩
    obtain ⟨r1, hr1, hb1⟩ := e_isFrozen hk hi
    rw [hr1, bn_s]
    by_cases g1 : rC s i 3 = 1
    · rw [if_neg (fun q => (isb_0 hb1).mp q g1)]
      obtain ⟨r2, hr2, hb2⟩ := e_isConcerned hw hm hk hmm hi
      rw [hr2, bn_s]
      by_cases g2 : cnc s nt nm m i
      · rw [if_neg (fun q => (isb_0 hb2).mp q g2), e_of2 (by omega), bn_s, w3]
        by_cases g3 : e = nA s m
        · rw [if_pos (by rw [g3])]
          obtain ⟨r3, hr3, hb3⟩ := e_hasSameKeys hm hmm he ek
          rw [hr3, bn_s]
          by_cases g4 : sameK s m e ek
          · rw [if_neg (fun q => (isb_0 hb3).mp q ⟨g3, g4⟩)]
            exact ⟨fun h => absurd g4 h.2.2.2, fun _ => rfl⟩
          · rw [if_pos ((isb_0 hb3).mpr (fun q => g4 q.2))]
            exact ⟨fun _ => rfl, fun h => absurd ⟨g1, g2, g3, g4⟩ h⟩
        · rw [if_neg (fun q => g3 (nI_inj (by omega) (by omega) q))]
          exact ⟨fun h => absurd h.2.2.1 g3, fun _ => rfl⟩
      · rw [if_pos ((isb_0 hb2).mpr g2)]
        exact ⟨fun h => absurd h.2.1 g2, fun _ => rfl⟩
    · rw [if_pos ((isb_0 hb1).mpr g1)]
      exact ⟨fun h => absurd h.1 g1, fun _ => rfl⟩
  · show lX9_isBarred_4 s (nI m) (nI e) ek (n' + 1) y (nI nc) = rb y
    rw [lX9_isBarred_4_s, rd_l234' hk, if_pos (up_N (by omega))]
theorem e_breaksFrozen (hm : WFM s nt nm) (hk : WFC s nt nm nc) (ck : CK s nc k_count k_fs k_st k_dy k_tg k_ac k_tc k_keys k_kinds k_vals k_tk) (D : DO s nt nm m e d_method d_family d_old d_kept d_count d_used d_src d_keys d_defs ch en kp ek ed) : ∃ r, fX8_breaksFrozenCall k_count k_fs k_tg d_family d_old d_count d_src = some r ∧ isb r (BARd s nt nm nc m e ek) := by
  have he := D.e5
  have w4 := (hm.2.2 m D.mm).2.2.2.1
  unfold fX8_breaksFrozenCall
  obtain ⟨w, hww, hwb⟩ := e_withTargetIn hm hk ck d_family
  rw [hww, bn_s]
  have hfr : ∀ k, tb (w &&& k_fs) k = true ↔ k < nc ∧ rC s k 3 = 1 ∧ cnc s nt nm m k := fun k => by
    rw [tb_andt, hwb k, ck.fs k, D.fm]
    exact ⟨fun h => ⟨h.1.1, h.2.2, h.1.2⟩, fun h => ⟨⟨h.1, h.2.2⟩, h.1, h.2.1⟩⟩
  unfold jX8_breaksFrozenCall_36
  by_cases g : (w &&& k_fs) = 0
  · rw [if_pos g, if_pos rfl]
    exact ⟨0, rfl, isb_f (fun ⟨c, h1, h2, h3, _⟩ => nz_iff.mp g c ((hfr c).mpr ⟨h1, h2, h3⟩))⟩
  · rw [if_neg g, if_neg (by decide)]
    obtain ⟨c, hc⟩ : ∃ c, tb (w &&& k_fs) c = true := Classical.byContradiction (fun hn => g (nz_iff.mpr (fun k hk => hn ⟨k, hk⟩)))
    obtain ⟨h1, h2, h3⟩ := (hfr c).mp hc
    by_cases g2 : e = nA s m
    · have hd : d_count = d_old := by rw [D.ct, D.od, g2]
      rw [if_pos hd]
      obtain ⟨r, hr, hb⟩ := e_keepsWholeList hm D g2
      rw [hr, bn_s]
      by_cases g3 : sameK s m e ek
      · rw [if_neg (fun q => (isb_0 hb).mp q g3)]
        exact ⟨0, rfl, isb_f (fun ⟨_, _, _, _, _, q⟩ => q g3)⟩
      · rw [if_pos ((isb_0 hb).mpr g3)]
        exact ⟨1, rfl, isb_t ⟨c, h1, h2, h3, g2, g3⟩⟩
    · have hd : ¬ d_count = d_old := by rw [D.ct, D.od]; exact fun q => g2 (nI_inj (by omega) (by omega) q)
      rw [if_neg hd]
      exact ⟨0, rfl, isb_f (fun ⟨_, _, _, _, q, _⟩ => g2 q)⟩
/-- all rewritten calls have room for their new temporaries -/
def ROOM (s : Nat → Int32) (nt nm nc m : Nat) (hb : Nat → Nat) : Prop := ∀ c, c < nc → ¬ rC s c 3 = 1 → cnc s nt nm m c → cN s c + cnt (nI (hb c)) 16 ≤ 8
theorem e_hasRoom (hw : WFT s nt) (hm : WFM s nt nm) (hk : WFC s nt nm nc) (hmm : m < nm) {hb : Nat → Nat} (Hb : ∀ c, c < nc → ¬ rC s c 3 = 1 → cnc s nt nm m c → fX9_hoistedOf s (nI e) kp (nI c) = some (nI (hb c))) : ∃ r, fX9_hasRoom s (nI m) (nI e) kp = some r ∧ isb r (ROOM s nt nm nc m hb) := by
  have h8 := hk.1
  have h16 := hm.1
  unfold fX9_hasRoom
  refine and0 (g := fun n' y i => lX9_hasRoom_4 s (nI m) (nI e) kp n' y i) (N := nc) (P := fun c => ¬ rC s c 3 = 1 → cnc s nt nm m c → cN s c + cnt (nI (hb c)) 16 ≤ 8) (fun n' i hi => ?_) (fun n' y => ?_) (by omega)
  · show lX9_hasRoom_4 s (nI m) (nI e) kp (n' + 1) 0 (nI i) = lX9_hasRoom_4 s (nI m) (nI e) kp n' 0 (nI i + 1) ∧ (_ → lX9_hasRoom_4 s (nI m) (nI e) kp (n' + 1) 1 (nI i) = lX9_hasRoom_4 s (nI m) (nI e) kp n' 1 (nI i + 1)) ∧ (_ → lX9_hasRoom_4 s (nI m) (nI e) kp (n' + 1) 1 (nI i) = lX9_hasRoom_4 s (nI m) (nI e) kp n' 0 (nI i + 1))
    have W := hk.2.2 i hi
    have t8 := W.tn'
    rw [lX9_hasRoom_4_s, lX9_hasRoom_4_s, rd_l234' hk, rd_l234' hk, if_neg (up_i (by omega) hi), if_neg (up_i (by omega) hi), if_pos rfl, if_neg (by decide)]
    unfold jX9_hasRoom_66 jX9_hasRoom_62 jX9_hasRoom_67
    refine ⟨rfl, ?_⟩
    obtain ⟨r1, hr1, hb1⟩ := e_isFrozen hk hi
    rw [hr1, bn_s]
    by_cases g1 : rC s i 3 = 1
    · rw [if_neg (fun q => (isb_0 hb1).mp q g1)]
      exact ⟨fun _ => rfl, fun h => absurd (fun q => absurd g1 q) h⟩
    · rw [if_pos ((isb_0 hb1).mpr g1)]
      obtain ⟨r2, hr2, hb2⟩ := e_isConcerned hw hm hk hmm hi
      rw [hr2, bn_s]
      by_cases g2 : cnc s nt nm m i
      · have c1 := cnt_le_N (nI (hb i)) 16
        rw [if_neg (fun q => (isb_0 hb2).mp q g2), e_at20, bn_s, rd_C (by omega) (by decide), Hb i hi g1 g2, bn_s, e_ones, bn_s, W.tn, nI_add]
        by_cases g3 : cN s i + cnt (nI (hb i)) 16 ≤ 8
        · rw [if_neg (show ¬ (8 : Int32) < nI (cN s i + cnt (nI (hb i)) 16) from nI_nlt (a := 8) (by omega) (by decide))]
          exact ⟨fun _ => rfl, fun h => absurd (fun _ _ => g3) h⟩
        · rw [if_pos (show (8 : Int32) < nI (cN s i + cnt (nI (hb i)) 16) from nI_lt (a := 8) (by omega) (by omega))]
          exact ⟨fun h => absurd (h g1 g2) g3, fun _ => rfl⟩
      · rw [if_pos ((isb_0 hb2).mpr g2)]
        exact ⟨fun _ => rfl, fun h => absurd (fun _ q => absurd q g2) h⟩
  · show lX9_hasRoom_4 s (nI m) (nI e) kp (n' + 1) y (nI nc) = rb y
    rw [lX9_hasRoom_4_s, rd_l234' hk, if_pos (up_N (by omega))]
theorem e_chooseHoisted (hk : WFC s nt nm nc) (ck : CK s nc k_count k_fs k_st k_dy k_tg k_ac k_tc k_keys k_kinds k_vals k_tk) {R : Int32} (hR : ∀ c, tb R c = true ↔ c < nc ∧ ¬ rC s c 3 = 1 ∧ cnc s nt nm m c) {hb : Nat → Nat} (H5 : ∀ c, c < nc → ¬ rC s c 3 = 1 → cnc s nt nm m c → hb c < 32) (Hb : ∀ c, c < nc → ¬ rC s c 3 = 1 → cnc s nt nm m c → ∀ g1 g2 g3 g4, ∃ o1 o2 o3 o4, fX4_choose g1 g2 g3 g4 k_ac k_kinds d_kept d_count d_src (nI c) = some (nI (hb c), o1, o2, o3, o4)) (g1 g2 : Int32) (g3 g4 x : Nat → Int32) : ∃ r x' o1 o2 o3 o4, fX8_chooseHoisted x k_count k_ac k_tc k_kinds d_kept d_count d_src g1 g2 g3 g4 R = some (r, x', o1, o2, o3, o4) ∧ isb r (ROOM s nt nm nc m hb) ∧ (ROOM s nt nm nc m hb → ∀ c, c < nc → ¬ rC s c 3 = 1 → cnc s nt nm m c → x' c = nI (hb c)) := by
  have h8 := hk.1
  have hn : k_count = nI nc := ck.n
  unfold fX8_chooseHoisted
  have key : ∀ n i x g1 g2 g3 g4, i ≤ nc → nc - i < n → (∀ c, c < i → ¬ rC s c 3 = 1 → cnc s nt nm m c → cN s c + cnt (nI (hb c)) 16 ≤ 8 ∧ x c = nI (hb c)) → ∃ r x' o1 o2 o3 o4, lX8_chooseHoisted_10 k_count k_ac k_tc k_kinds d_kept d_count d_src n x g1 g2 g3 g4 R (nI i) = some (r, x', o1, o2, o3, o4) ∧ isb r (ROOM s nt nm nc m hb) ∧ (ROOM s nt nm nc m hb → ∀ c, c < nc → ¬ rC s c 3 = 1 → cnc s nt nm m c → x' c = nI (hb c)) := by
    intro n
    induction n with
    | zero => intro i x g1 g2 g3 g4 _ h; omega
    | succ n ih =>
      intro i x g1 g2 g3 g4 hi hnn hx
      rw [lX8_chooseHoisted_10_s]
      by_cases hlt : i < nc
      · have W := hk.2.2 i hlt
        have t8 := W.tn'
        rw [if_neg (by rw [hn]; exact up_i (by omega) hlt)]
        obtain ⟨r1, hr1, hb1⟩ := e_contains R (k := i) (by omega)
        rw [hr1, bn_s]
        by_cases g : tb R i = true
        · obtain ⟨-, q1, q2⟩ := (hR i).mp g
          rw [if_neg (fun q => (isb_0 hb1).mp q g)]
          obtain ⟨o1, o2, o3, o4, ho⟩ := Hb i hlt q1 q2 g1 g2 g3 g4
          have c1 := cnt_le_N (nI (hb i)) 16
          have h32 := H5 i hlt q1 q2
          rw [ho, bn5_s, rd_nI (by omega) (by decide), (ck.c i hlt).tc, W.tn, e_bitCount (fun k hk => tb_small (n := 16) (by decide) (by omega) hk), bn_s, nI_add]
          by_cases g5 : cN s i + cnt (nI (hb i)) 16 ≤ 8
          · rw [if_pos (show nI (cN s i + cnt (nI (hb i)) 16) ≤ (8 : Int32) from nI_le (b := 8) g5 (by decide)), wr_nI (by omega) (by decide), nI_1]
            refine ih (i + 1) _ o1 o2 o3 o4 (by omega) (by omega) (fun c hc h1 h2 => ?_)
            by_cases z : c = i
            · subst z
              exact ⟨g5, upd_s⟩
            · rw [upd_n z]
              exact hx c (by omega) h1 h2
          · rw [if_neg (show ¬ nI (cN s i + cnt (nI (hb i)) 16) ≤ (8 : Int32) from nI_ge (a := 8) (by omega) (by omega))]
            have no : ¬ ROOM s nt nm nc m hb := fun q => g5 (q i hlt q1 q2)
            exact ⟨0, x, o1, o2, o3, o4, rfl, isb_f no, fun q => absurd q no⟩
        · rw [if_pos ((isb_0 hb1).mpr g), nI_1]
          refine ih (i + 1) x g1 g2 g3 g4 (by omega) (by omega) (fun c hc h1 h2 => ?_)
          by_cases z : c = i
          · subst z
            exact absurd ((hR c).mpr ⟨hlt, h1, h2⟩) g
          · exact hx c (by omega) h1 h2
      · have e1 : i = nc := by omega
        subst e1
        rw [if_pos (by rw [hn]; exact up_N (by omega))]
        exact ⟨1, x, g1, g2, g3, g4, rfl, isb_t (fun c hc h1 h2 => (hx c hc h1 h2).1), fun _ c hc h1 h2 => (hx c hc h1 h2).2⟩
  exact key 5000 0 x g1 g2 g3 g4 (Nat.zero_le _) (by omega) (fun c hc => absurd hc (Nat.not_lt_zero c))
end BA
