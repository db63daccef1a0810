/-! generated: worlds, rooms, the methods as functions -/
abbrev A1 : Type := Nat → Int32
abbrev MS : Type := Int32 × Int32 × A1 × Int32 × A1 × A1 × A1 × A1 × A1 × Int32 × Int32 × A1 × A1 × A1 × A1 × A1 × A1 × A1 × A1 × A1 × A1 × A1
abbrev B_k (cI cM : ClassId) (a_k a_k_staticType a_k_dynamicType a_k_target a_k_argumentCounts a_k_temporaryCounts a_k_keys a_k_kinds a_k_values a_k_temporaryKinds a_k_newKinds a_k_newValues : Nat) (k_count : Int32) (k_frozenSet : Int32) (k_staticType : Nat → Int32) (k_dynamicType : Nat → Int32) (k_target : Nat → Int32) (k_argumentCounts : Nat → Int32) (k_temporaryCounts : Nat → Int32) (k_keys : Nat → Int32) (k_kinds : Nat → Int32) (k_values : Nat → Int32) (k_temporaryKinds : Nat → Int32) (k_newKinds : Nat → Int32) (k_newValues : Nat → Int32) : va_W := [(a_k, .inr (0, [.int k_count, .int k_frozenSet, .ref a_k_staticType, .ref a_k_dynamicType, .ref a_k_target, .ref a_k_argumentCounts, .ref a_k_temporaryCounts, .ref a_k_keys, .ref a_k_kinds, .ref a_k_values, .ref a_k_temporaryKinds, .ref a_k_newKinds, .ref a_k_newValues])), (a_k_staticType, .inl (cI, 8, .inl k_staticType)), (a_k_dynamicType, .inl (cI, 8, .inl k_dynamicType)), (a_k_target, .inl (cI, 8, .inl k_target)), (a_k_argumentCounts, .inl (cI, 8, .inl k_argumentCounts)), (a_k_temporaryCounts, .inl (cI, 8, .inl k_temporaryCounts)), (a_k_keys, .inl (cI, 40, .inl k_keys)), (a_k_kinds, .inl (cI, 40, .inl k_kinds)), (a_k_values, .inl (cI, 40, .inl k_values)), (a_k_temporaryKinds, .inl (cI, 64, .inl k_temporaryKinds)), (a_k_newKinds, .inl (cI, 5, .inl k_newKinds)), (a_k_newValues, .inl (cI, 5, .inl k_newValues))]
abbrev B_m (cI cM : ClassId) (a_m a_m_type a_m_name a_m_arity a_m_keys a_m_defaults : Nat) (m_count : Int32) (m_type : Nat → Int32) (m_name : Nat → Int32) (m_arity : Nat → Int32) (m_keys : Nat → Int32) (m_defaults : Nat → Int32) : va_W := [(a_m, .inr (5, [.int m_count, .ref a_m_type, .ref a_m_name, .ref a_m_arity, .ref a_m_keys, .ref a_m_defaults])), (a_m_type, .inl (cI, 16, .inl m_type)), (a_m_name, .inl (cI, 16, .inl m_name)), (a_m_arity, .inl (cI, 16, .inl m_arity)), (a_m_keys, .inl (cI, 80, .inl m_keys)), (a_m_defaults, .inl (cI, 80, .inl m_defaults))]
abbrev B_d (cI cM : ClassId) (a_d a_d_sources a_d_keys a_d_defaults : Nat) (d_open : Int32) (d_method : Int32) (d_family : Int32) (d_oldCount : Int32) (d_keptSet : Int32) (d_count : Int32) (d_sources : Nat → Int32) (d_keys : Nat → Int32) (d_defaults : Nat → Int32) (d_usedKeys : Int32) : va_W := [(a_d, .inr (1, [.int d_open, .int d_method, .int d_family, .int d_oldCount, .int d_keptSet, .int d_count, .ref a_d_sources, .ref a_d_keys, .ref a_d_defaults, .int d_usedKeys])), (a_d_sources, .inl (cI, 5, .inl d_sources)), (a_d_keys, .inl (cI, 5, .inl d_keys)), (a_d_defaults, .inl (cI, 5, .inl d_defaults))]
abbrev B_e (cI cM : ClassId) (a_e a_e_temporaries a_e_arguments : Nat) (e_counter : Int32) (e_temporaries : Nat → Int32) (e_arguments : Nat → Int32) : va_W := [(a_e, .inr (2, [.int e_counter, .ref a_e_temporaries, .ref a_e_arguments])), (a_e_temporaries, .inl (cI, 8, .inl e_temporaries)), (a_e_arguments, .inl (cI, 5, .inl e_arguments))]
abbrev B_o (cI cM : ClassId) (a_o a_t a_m a_k : Nat) : va_W := [(a_o, .inr (6, [.ref a_t, .ref a_m, .ref a_k]))]
abbrev B_t (cI cM : ClassId) (a_t a_t_supertypes : Nat) (t_count : Int32) (t_interfaceSet : Int32) (t_supertypes : Nat → Int32) : va_W := [(a_t, .inr (7, [.int t_count, .int t_interfaceSet, .ref a_t_supertypes])), (a_t_supertypes, .inl (cI, 8, .inl t_supertypes))]
abbrev B_g (cI cM : ClassId) (a_g a_g_kinds a_g_positions : Nat) (g_count : Int32) (g_kept : Int32) (g_kinds : Nat → Int32) (g_positions : Nat → Int32) : va_W := [(a_g, .inr (4, [.int g_count, .int g_kept, .ref a_g_kinds, .ref a_g_positions])), (a_g_kinds, .inl (cI, 5, .inl g_kinds)), (a_g_positions, .inl (cI, 5, .inl g_positions))]
abbrev B_x (cI cM : ClassId) (a_x a_x_hoistedOfCall a_o a_d a_h a_e a_g : Nat) (x_hoistedOfCall : Nat → Int32) : va_W := [(a_x, .inr (8, [.ref a_o, .ref a_d, .ref a_h, .ref a_e, .ref a_g, .ref a_x_hoistedOfCall])), (a_x_hoistedOfCall, .inl (cI, 8, .inl x_hoistedOfCall))]
abbrev B_h (cI cM : ClassId) (a_h a_h_saved : Nat) (a_h_ad : Nat → Nat → Nat) (h_count : Int32) (h_next : Int32) : va_W := [(a_h, .inr (3, [.int h_count, .int h_next, .ref a_h_saved])), (a_h_saved, .inl (cM, 8, .inr (.inr (.inr (.inr (fun k => some (a_h_ad k 0)))))))]
abbrev W_k (cI cM : ClassId) (a_k a_k_staticType a_k_dynamicType a_k_target a_k_argumentCounts a_k_temporaryCounts a_k_keys a_k_kinds a_k_values a_k_temporaryKinds a_k_newKinds a_k_newValues : Nat) (k_count : Int32) (k_frozenSet : Int32) (k_staticType : Nat → Int32) (k_dynamicType : Nat → Int32) (k_target : Nat → Int32) (k_argumentCounts : Nat → Int32) (k_temporaryCounts : Nat → Int32) (k_keys : Nat → Int32) (k_kinds : Nat → Int32) (k_values : Nat → Int32) (k_temporaryKinds : Nat → Int32) (k_newKinds : Nat → Int32) (k_newValues : Nat → Int32) : va_W := [(a_k, .inr (0, [.int k_count, .int k_frozenSet, .ref a_k_staticType, .ref a_k_dynamicType, .ref a_k_target, .ref a_k_argumentCounts, .ref a_k_temporaryCounts, .ref a_k_keys, .ref a_k_kinds, .ref a_k_values, .ref a_k_temporaryKinds, .ref a_k_newKinds, .ref a_k_newValues])), (a_k_staticType, .inl (cI, 8, .inl k_staticType)), (a_k_dynamicType, .inl (cI, 8, .inl k_dynamicType)), (a_k_target, .inl (cI, 8, .inl k_target)), (a_k_argumentCounts, .inl (cI, 8, .inl k_argumentCounts)), (a_k_temporaryCounts, .inl (cI, 8, .inl k_temporaryCounts)), (a_k_keys, .inl (cI, 40, .inl k_keys)), (a_k_kinds, .inl (cI, 40, .inl k_kinds)), (a_k_values, .inl (cI, 40, .inl k_values)), (a_k_temporaryKinds, .inl (cI, 64, .inl k_temporaryKinds)), (a_k_newKinds, .inl (cI, 5, .inl k_newKinds)), (a_k_newValues, .inl (cI, 5, .inl k_newValues))]
abbrev W_m (cI cM : ClassId) (a_m a_m_type a_m_name a_m_arity a_m_keys a_m_defaults : Nat) (m_count : Int32) (m_type : Nat → Int32) (m_name : Nat → Int32) (m_arity : Nat → Int32) (m_keys : Nat → Int32) (m_defaults : Nat → Int32) : va_W := [(a_m, .inr (5, [.int m_count, .ref a_m_type, .ref a_m_name, .ref a_m_arity, .ref a_m_keys, .ref a_m_defaults])), (a_m_type, .inl (cI, 16, .inl m_type)), (a_m_name, .inl (cI, 16, .inl m_name)), (a_m_arity, .inl (cI, 16, .inl m_arity)), (a_m_keys, .inl (cI, 80, .inl m_keys)), (a_m_defaults, .inl (cI, 80, .inl m_defaults))]
abbrev W_k_m (cI cM : ClassId) (a_k a_k_staticType a_k_dynamicType a_k_target a_k_argumentCounts a_k_temporaryCounts a_k_keys a_k_kinds a_k_values a_k_temporaryKinds a_k_newKinds a_k_newValues a_m a_m_type a_m_name a_m_arity a_m_keys a_m_defaults : Nat) (k_count : Int32) (k_frozenSet : Int32) (k_staticType : Nat → Int32) (k_dynamicType : Nat → Int32) (k_target : Nat → Int32) (k_argumentCounts : Nat → Int32) (k_temporaryCounts : Nat → Int32) (k_keys : Nat → Int32) (k_kinds : Nat → Int32) (k_values : Nat → Int32) (k_temporaryKinds : Nat → Int32) (k_newKinds : Nat → Int32) (k_newValues : Nat → Int32) (m_count : Int32) (m_type : Nat → Int32) (m_name : Nat → Int32) (m_arity : Nat → Int32) (m_keys : Nat → Int32) (m_defaults : Nat → Int32) : va_W := [(a_k, .inr (0, [.int k_count, .int k_frozenSet, .ref a_k_staticType, .ref a_k_dynamicType, .ref a_k_target, .ref a_k_argumentCounts, .ref a_k_temporaryCounts, .ref a_k_keys, .ref a_k_kinds, .ref a_k_values, .ref a_k_temporaryKinds, .ref a_k_newKinds, .ref a_k_newValues])), (a_k_staticType, .inl (cI, 8, .inl k_staticType)), (a_k_dynamicType, .inl (cI, 8, .inl k_dynamicType)), (a_k_target, .inl (cI, 8, .inl k_target)), (a_k_argumentCounts, .inl (cI, 8, .inl k_argumentCounts)), (a_k_temporaryCounts, .inl (cI, 8, .inl k_temporaryCounts)), (a_k_keys, .inl (cI, 40, .inl k_keys)), (a_k_kinds, .inl (cI, 40, .inl k_kinds)), (a_k_values, .inl (cI, 40, .inl k_values)), (a_k_temporaryKinds, .inl (cI, 64, .inl k_temporaryKinds)), (a_k_newKinds, .inl (cI, 5, .inl k_newKinds)), (a_k_newValues, .inl (cI, 5, .inl k_newValues)), (a_m, .inr (5, [.int m_count, .ref a_m_type, .ref a_m_name, .ref a_m_arity, .ref a_m_keys, .ref a_m_defaults])), (a_m_type, .inl (cI, 16, .inl m_type)), (a_m_name, .inl (cI, 16, .inl m_name)), (a_m_arity, .inl (cI, 16, .inl m_arity)), (a_m_keys, .inl (cI, 80, .inl m_keys)), (a_m_defaults, .inl (cI, 80, .inl m_defaults))]
abbrev W_k_d (cI cM : ClassId) (a_k a_k_staticType a_k_dynamicType a_k_target a_k_argumentCounts a_k_temporaryCounts a_k_keys a_k_kinds a_k_values a_k_temporaryKinds a_k_newKinds a_k_newValues a_d a_d_sources a_d_keys a_d_defaults : Nat) (k_count : Int32) (k_frozenSet : Int32) (k_staticType : Nat → Int32) (k_dynamicType : Nat → Int32) (k_target : Nat → Int32) (k_argumentCounts : Nat → Int32) (k_temporaryCounts : Nat → Int32) (k_keys : Nat → Int32) (k_kinds : Nat → Int32) (k_values : Nat → Int32) (k_temporaryKinds : Nat → Int32) (k_newKinds : Nat → Int32) (k_newValues : Nat → Int32) (d_open : Int32) (d_method : Int32) (d_family : Int32) (d_oldCount : Int32) (d_keptSet : Int32) (d_count : Int32) (d_sources : Nat → Int32) (d_keys : Nat → Int32) (d_defaults : Nat → Int32) (d_usedKeys : Int32) : va_W := [(a_k, .inr (0, [.int k_count, .int k_frozenSet, .ref a_k_staticType, .ref a_k_dynamicType, .ref a_k_target, .ref a_k_argumentCounts, .ref a_k_temporaryCounts, .ref a_k_keys, .ref a_k_kinds, .ref a_k_values, .ref a_k_temporaryKinds, .ref a_k_newKinds, .ref a_k_newValues])), (a_k_staticType, .inl (cI, 8, .inl k_staticType)), (a_k_dynamicType, .inl (cI, 8, .inl k_dynamicType)), (a_k_target, .inl (cI, 8, .inl k_target)), (a_k_argumentCounts, .inl (cI, 8, .inl k_argumentCounts)), (a_k_temporaryCounts, .inl (cI, 8, .inl k_temporaryCounts)), (a_k_keys, .inl (cI, 40, .inl k_keys)), (a_k_kinds, .inl (cI, 40, .inl k_kinds)), (a_k_values, .inl (cI, 40, .inl k_values)), (a_k_temporaryKinds, .inl (cI, 64, .inl k_temporaryKinds)), (a_k_newKinds, .inl (cI, 5, .inl k_newKinds)), (a_k_newValues, .inl (cI, 5, .inl k_newValues)), (a_d, .inr (1, [.int d_open, .int d_method, .int d_family, .int d_oldCount, .int d_keptSet, .int d_count, .ref a_d_sources, .ref a_d_keys, .ref a_d_defaults, .int d_usedKeys])), (a_d_sources, .inl (cI, 5, .inl d_sources)), (a_d_keys, .inl (cI, 5, .inl d_keys)), (a_d_defaults, .inl (cI, 5, .inl d_defaults))]
abbrev W_k_q1_d (cI cM : ClassId) (a_k a_k_staticType a_k_dynamicType a_k_target a_k_argumentCounts a_k_temporaryCounts a_k_keys a_k_kinds a_k_values a_k_temporaryKinds a_k_newKinds a_k_newValues a_q1 a_d a_d_sources a_d_keys a_d_defaults : Nat) (k_count : Int32) (k_frozenSet : Int32) (k_staticType : Nat → Int32) (k_dynamicType : Nat → Int32) (k_target : Nat → Int32) (k_argumentCounts : Nat → Int32) (k_temporaryCounts : Nat → Int32) (k_keys : Nat → Int32) (k_kinds : Nat → Int32) (k_values : Nat → Int32) (k_temporaryKinds : Nat → Int32) (k_newKinds : Nat → Int32) (k_newValues : Nat → Int32) (q1_c : Nat → Int32) (d_open : Int32) (d_method : Int32) (d_family : Int32) (d_oldCount : Int32) (d_keptSet : Int32) (d_count : Int32) (d_sources : Nat → Int32) (d_keys : Nat → Int32) (d_defaults : Nat → Int32) (d_usedKeys : Int32) : va_W := [(a_k, .inr (0, [.int k_count, .int k_frozenSet, .ref a_k_staticType, .ref a_k_dynamicType, .ref a_k_target, .ref a_k_argumentCounts, .ref a_k_temporaryCounts, .ref a_k_keys, .ref a_k_kinds, .ref a_k_values, .ref a_k_temporaryKinds, .ref a_k_newKinds, .ref a_k_newValues])), (a_k_staticType, .inl (cI, 8, .inl k_staticType)), (a_k_dynamicType, .inl (cI, 8, .inl k_dynamicType)), (a_k_target, .inl (cI, 8, .inl k_target)), (a_k_argumentCounts, .inl (cI, 8, .inl k_argumentCounts)), (a_k_temporaryCounts, .inl (cI, 8, .inl k_temporaryCounts)), (a_k_keys, .inl (cI, 40, .inl k_keys)), (a_k_kinds, .inl (cI, 40, .inl k_kinds)), (a_k_values, .inl (cI, 40, .inl k_values)), (a_k_temporaryKinds, .inl (cI, 64, .inl k_temporaryKinds)), (a_k_newKinds, .inl (cI, 5, .inl k_newKinds)), (a_k_newValues, .inl (cI, 5, .inl k_newValues)), (a_q1, .inl (cI, 8, .inl q1_c)), (a_d, .inr (1, [.int d_open, .int d_method, .int d_family, .int d_oldCount, .int d_keptSet, .int d_count, .ref a_d_sources, .ref a_d_keys, .ref a_d_defaults, .int d_usedKeys])), (a_d_sources, .inl (cI, 5, .inl d_sources)), (a_d_keys, .inl (cI, 5, .inl d_keys)), (a_d_defaults, .inl (cI, 5, .inl d_defaults))]
abbrev W_k_k2 (cI cM : ClassId) (a_k a_k_staticType a_k_dynamicType a_k_target a_k_argumentCounts a_k_temporaryCounts a_k_keys a_k_kinds a_k_values a_k_temporaryKinds a_k_newKinds a_k_newValues a_k2 a_k2_staticType a_k2_dynamicType a_k2_target a_k2_argumentCounts a_k2_temporaryCounts a_k2_keys a_k2_kinds a_k2_values a_k2_temporaryKinds a_k2_newKinds a_k2_newValues : Nat) (k_count : Int32) (k_frozenSet : Int32) (k_staticType : Nat → Int32) (k_dynamicType : Nat → Int32) (k_target : Nat → Int32) (k_argumentCounts : Nat → Int32) (k_temporaryCounts : Nat → Int32) (k_keys : Nat → Int32) (k_kinds : Nat → Int32) (k_values : Nat → Int32) (k_temporaryKinds : Nat → Int32) (k_newKinds : Nat → Int32) (k_newValues : Nat → Int32) (k2_count : Int32) (k2_frozenSet : Int32) (k2_staticType : Nat → Int32) (k2_dynamicType : Nat → Int32) (k2_target : Nat → Int32) (k2_argumentCounts : Nat → Int32) (k2_temporaryCounts : Nat → Int32) (k2_keys : Nat → Int32) (k2_kinds : Nat → Int32) (k2_values : Nat → Int32) (k2_temporaryKinds : Nat → Int32) (k2_newKinds : Nat → Int32) (k2_newValues : Nat → Int32) : va_W := [(a_k, .inr (0, [.int k_count, .int k_frozenSet, .ref a_k_staticType, .ref a_k_dynamicType, .ref a_k_target, .ref a_k_argumentCounts, .ref a_k_temporaryCounts, .ref a_k_keys, .ref a_k_kinds, .ref a_k_values, .ref a_k_temporaryKinds, .ref a_k_newKinds, .ref a_k_newValues])), (a_k_staticType, .inl (cI, 8, .inl k_staticType)), (a_k_dynamicType, .inl (cI, 8, .inl k_dynamicType)), (a_k_target, .inl (cI, 8, .inl k_target)), (a_k_argumentCounts, .inl (cI, 8, .inl k_argumentCounts)), (a_k_temporaryCounts, .inl (cI, 8, .inl k_temporaryCounts)), (a_k_keys, .inl (cI, 40, .inl k_keys)), (a_k_kinds, .inl (cI, 40, .inl k_kinds)), (a_k_values, .inl (cI, 40, .inl k_values)), (a_k_temporaryKinds, .inl (cI, 64, .inl k_temporaryKinds)), (a_k_newKinds, .inl (cI, 5, .inl k_newKinds)), (a_k_newValues, .inl (cI, 5, .inl k_newValues)), (a_k2, .inr (0, [.int k2_count, .int k2_frozenSet, .ref a_k2_staticType, .ref a_k2_dynamicType, .ref a_k2_target, .ref a_k2_argumentCounts, .ref a_k2_temporaryCounts, .ref a_k2_keys, .ref a_k2_kinds, .ref a_k2_values, .ref a_k2_temporaryKinds, .ref a_k2_newKinds, .ref a_k2_newValues])), (a_k2_staticType, .inl (cI, 8, .inl k2_staticType)), (a_k2_dynamicType, .inl (cI, 8, .inl k2_dynamicType)), (a_k2_target, .inl (cI, 8, .inl k2_target)), (a_k2_argumentCounts, .inl (cI, 8, .inl k2_argumentCounts)), (a_k2_temporaryCounts, .inl (cI, 8, .inl k2_temporaryCounts)), (a_k2_keys, .inl (cI, 40, .inl k2_keys)), (a_k2_kinds, .inl (cI, 40, .inl k2_kinds)), (a_k2_values, .inl (cI, 40, .inl k2_values)), (a_k2_temporaryKinds, .inl (cI, 64, .inl k2_temporaryKinds)), (a_k2_newKinds, .inl (cI, 5, .inl k2_newKinds)), (a_k2_newValues, .inl (cI, 5, .inl k2_newValues))]
abbrev W_d_m (cI cM : ClassId) (a_d a_d_sources a_d_keys a_d_defaults a_m a_m_type a_m_name a_m_arity a_m_keys a_m_defaults : Nat) (d_open : Int32) (d_method : Int32) (d_family : Int32) (d_oldCount : Int32) (d_keptSet : Int32) (d_count : Int32) (d_sources : Nat → Int32) (d_keys : Nat → Int32) (d_defaults : Nat → Int32) (d_usedKeys : Int32) (m_count : Int32) (m_type : Nat → Int32) (m_name : Nat → Int32) (m_arity : Nat → Int32) (m_keys : Nat → Int32) (m_defaults : Nat → Int32) : va_W := [(a_d, .inr (1, [.int d_open, .int d_method, .int d_family, .int d_oldCount, .int d_keptSet, .int d_count, .ref a_d_sources, .ref a_d_keys, .ref a_d_defaults, .int d_usedKeys])), (a_d_sources, .inl (cI, 5, .inl d_sources)), (a_d_keys, .inl (cI, 5, .inl d_keys)), (a_d_defaults, .inl (cI, 5, .inl d_defaults)), (a_m, .inr (5, [.int m_count, .ref a_m_type, .ref a_m_name, .ref a_m_arity, .ref a_m_keys, .ref a_m_defaults])), (a_m_type, .inl (cI, 16, .inl m_type)), (a_m_name, .inl (cI, 16, .inl m_name)), (a_m_arity, .inl (cI, 16, .inl m_arity)), (a_m_keys, .inl (cI, 80, .inl m_keys)), (a_m_defaults, .inl (cI, 80, .inl m_defaults))]
abbrev W_d (cI cM : ClassId) (a_d a_d_sources a_d_keys a_d_defaults : Nat) (d_open : Int32) (d_method : Int32) (d_family : Int32) (d_oldCount : Int32) (d_keptSet : Int32) (d_count : Int32) (d_sources : Nat → Int32) (d_keys : Nat → Int32) (d_defaults : Nat → Int32) (d_usedKeys : Int32) : va_W := [(a_d, .inr (1, [.int d_open, .int d_method, .int d_family, .int d_oldCount, .int d_keptSet, .int d_count, .ref a_d_sources, .ref a_d_keys, .ref a_d_defaults, .int d_usedKeys])), (a_d_sources, .inl (cI, 5, .inl d_sources)), (a_d_keys, .inl (cI, 5, .inl d_keys)), (a_d_defaults, .inl (cI, 5, .inl d_defaults))]
abbrev W_e (cI cM : ClassId) (a_e a_e_temporaries a_e_arguments : Nat) (e_counter : Int32) (e_temporaries : Nat → Int32) (e_arguments : Nat → Int32) : va_W := [(a_e, .inr (2, [.int e_counter, .ref a_e_temporaries, .ref a_e_arguments])), (a_e_temporaries, .inl (cI, 8, .inl e_temporaries)), (a_e_arguments, .inl (cI, 5, .inl e_arguments))]
abbrev W_e_k (cI cM : ClassId) (a_e a_e_temporaries a_e_arguments a_k a_k_staticType a_k_dynamicType a_k_target a_k_argumentCounts a_k_temporaryCounts a_k_keys a_k_kinds a_k_values a_k_temporaryKinds a_k_newKinds a_k_newValues : Nat) (e_counter : Int32) (e_temporaries : Nat → Int32) (e_arguments : Nat → Int32) (k_count : Int32) (k_frozenSet : Int32) (k_staticType : Nat → Int32) (k_dynamicType : Nat → Int32) (k_target : Nat → Int32) (k_argumentCounts : Nat → Int32) (k_temporaryCounts : Nat → Int32) (k_keys : Nat → Int32) (k_kinds : Nat → Int32) (k_values : Nat → Int32) (k_temporaryKinds : Nat → Int32) (k_newKinds : Nat → Int32) (k_newValues : Nat → Int32) : va_W := [(a_e, .inr (2, [.int e_counter, .ref a_e_temporaries, .ref a_e_arguments])), (a_e_temporaries, .inl (cI, 8, .inl e_temporaries)), (a_e_arguments, .inl (cI, 5, .inl e_arguments)), (a_k, .inr (0, [.int k_count, .int k_frozenSet, .ref a_k_staticType, .ref a_k_dynamicType, .ref a_k_target, .ref a_k_argumentCounts, .ref a_k_temporaryCounts, .ref a_k_keys, .ref a_k_kinds, .ref a_k_values, .ref a_k_temporaryKinds, .ref a_k_newKinds, .ref a_k_newValues])), (a_k_staticType, .inl (cI, 8, .inl k_staticType)), (a_k_dynamicType, .inl (cI, 8, .inl k_dynamicType)), (a_k_target, .inl (cI, 8, .inl k_target)), (a_k_argumentCounts, .inl (cI, 8, .inl k_argumentCounts)), (a_k_temporaryCounts, .inl (cI, 8, .inl k_temporaryCounts)), (a_k_keys, .inl (cI, 40, .inl k_keys)), (a_k_kinds, .inl (cI, 40, .inl k_kinds)), (a_k_values, .inl (cI, 40, .inl k_values)), (a_k_temporaryKinds, .inl (cI, 64, .inl k_temporaryKinds)), (a_k_newKinds, .inl (cI, 5, .inl k_newKinds)), (a_k_newValues, .inl (cI, 5, .inl k_newValues))]
abbrev W_e_m_k (cI cM : ClassId) (a_e a_e_temporaries a_e_arguments a_m a_m_type a_m_name a_m_arity a_m_keys a_m_defaults a_k a_k_staticType a_k_dynamicType a_k_target a_k_argumentCounts a_k_temporaryCounts a_k_keys a_k_kinds a_k_values a_k_temporaryKinds a_k_newKinds a_k_newValues : Nat) (e_counter : Int32) (e_temporaries : Nat → Int32) (e_arguments : Nat → Int32) (m_count : Int32) (m_type : Nat → Int32) (m_name : Nat → Int32) (m_arity : Nat → Int32) (m_keys : Nat → Int32) (m_defaults : Nat → Int32) (k_count : Int32) (k_frozenSet : Int32) (k_staticType : Nat → Int32) (k_dynamicType : Nat → Int32) (k_target : Nat → Int32) (k_argumentCounts : Nat → Int32) (k_temporaryCounts : Nat → Int32) (k_keys : Nat → Int32) (k_kinds : Nat → Int32) (k_values : Nat → Int32) (k_temporaryKinds : Nat → Int32) (k_newKinds : Nat → Int32) (k_newValues : Nat → Int32) : va_W := [(a_e, .inr (2, [.int e_counter, .ref a_e_temporaries, .ref a_e_arguments])), (a_e_temporaries, .inl (cI, 8, .inl e_temporaries)), (a_e_arguments, .inl (cI, 5, .inl e_arguments)), (a_m, .inr (5, [.int m_count, .ref a_m_type, .ref a_m_name, .ref a_m_arity, .ref a_m_keys, .ref a_m_defaults])), (a_m_type, .inl (cI, 16, .inl m_type)), (a_m_name, .inl (cI, 16, .inl m_name)), (a_m_arity, .inl (cI, 16, .inl m_arity)), (a_m_keys, .inl (cI, 80, .inl m_keys)), (a_m_defaults, .inl (cI, 80, .inl m_defaults)), (a_k, .inr (0, [.int k_count, .int k_frozenSet, .ref a_k_staticType, .ref a_k_dynamicType, .ref a_k_target, .ref a_k_argumentCounts, .ref a_k_temporaryCounts, .ref a_k_keys, .ref a_k_kinds, .ref a_k_values, .ref a_k_temporaryKinds, .ref a_k_newKinds, .ref a_k_newValues])), (a_k_staticType, .inl (cI, 8, .inl k_staticType)), (a_k_dynamicType, .inl (cI, 8, .inl k_dynamicType)), (a_k_target, .inl (cI, 8, .inl k_target)), (a_k_argumentCounts, .inl (cI, 8, .inl k_argumentCounts)), (a_k_temporaryCounts, .inl (cI, 8, .inl k_temporaryCounts)), (a_k_keys, .inl (cI, 40, .inl k_keys)), (a_k_kinds, .inl (cI, 40, .inl k_kinds)), (a_k_values, .inl (cI, 40, .inl k_values)), (a_k_temporaryKinds, .inl (cI, 64, .inl k_temporaryKinds)), (a_k_newKinds, .inl (cI, 5, .inl k_newKinds)), (a_k_newValues, .inl (cI, 5, .inl k_newValues))]
abbrev W_t_t2 (cI cM : ClassId) (a_t a_t_supertypes a_t2 a_t2_supertypes : Nat) (t_count : Int32) (t_interfaceSet : Int32) (t_supertypes : Nat → Int32) (t2_count : Int32) (t2_interfaceSet : Int32) (t2_supertypes : Nat → Int32) : va_W := [(a_t, .inr (7, [.int t_count, .int t_interfaceSet, .ref a_t_supertypes])), (a_t_supertypes, .inl (cI, 8, .inl t_supertypes)), (a_t2, .inr (7, [.int t2_count, .int t2_interfaceSet, .ref a_t2_supertypes])), (a_t2_supertypes, .inl (cI, 8, .inl t2_supertypes))]
abbrev W_m_m2 (cI cM : ClassId) (a_m a_m_type a_m_name a_m_arity a_m_keys a_m_defaults a_m2 a_m2_type a_m2_name a_m2_arity a_m2_keys a_m2_defaults : Nat) (m_count : Int32) (m_type : Nat → Int32) (m_name : Nat → Int32) (m_arity : Nat → Int32) (m_keys : Nat → Int32) (m_defaults : Nat → Int32) (m2_count : Int32) (m2_type : Nat → Int32) (m2_name : Nat → Int32) (m2_arity : Nat → Int32) (m2_keys : Nat → Int32) (m2_defaults : Nat → Int32) : va_W := [(a_m, .inr (5, [.int m_count, .ref a_m_type, .ref a_m_name, .ref a_m_arity, .ref a_m_keys, .ref a_m_defaults])), (a_m_type, .inl (cI, 16, .inl m_type)), (a_m_name, .inl (cI, 16, .inl m_name)), (a_m_arity, .inl (cI, 16, .inl m_arity)), (a_m_keys, .inl (cI, 80, .inl m_keys)), (a_m_defaults, .inl (cI, 80, .inl m_defaults)), (a_m2, .inr (5, [.int m2_count, .ref a_m2_type, .ref a_m2_name, .ref a_m2_arity, .ref a_m2_keys, .ref a_m2_defaults])), (a_m2_type, .inl (cI, 16, .inl m2_type)), (a_m2_name, .inl (cI, 16, .inl m2_name)), (a_m2_arity, .inl (cI, 16, .inl m2_arity)), (a_m2_keys, .inl (cI, 80, .inl m2_keys)), (a_m2_defaults, .inl (cI, 80, .inl m2_defaults))]
abbrev W_o_t_m_k_o2_t2_m2_k2 (cI cM : ClassId) (a_o a_t a_t_supertypes a_m a_m_type a_m_name a_m_arity a_m_keys a_m_defaults a_k a_k_staticType a_k_dynamicType a_k_target a_k_argumentCounts a_k_temporaryCounts a_k_keys a_k_kinds a_k_values a_k_temporaryKinds a_k_newKinds a_k_newValues a_o2 a_t2 a_t2_supertypes a_m2 a_m2_type a_m2_name a_m2_arity a_m2_keys a_m2_defaults a_k2 a_k2_staticType a_k2_dynamicType a_k2_target a_k2_argumentCounts a_k2_temporaryCounts a_k2_keys a_k2_kinds a_k2_values a_k2_temporaryKinds a_k2_newKinds a_k2_newValues : Nat) (t_count : Int32) (t_interfaceSet : Int32) (t_supertypes : Nat → Int32) (m_count : Int32) (m_type : Nat → Int32) (m_name : Nat → Int32) (m_arity : Nat → Int32) (m_keys : Nat → Int32) (m_defaults : Nat → Int32) (k_count : Int32) (k_frozenSet : Int32) (k_staticType : Nat → Int32) (k_dynamicType : Nat → Int32) (k_target : Nat → Int32) (k_argumentCounts : Nat → Int32) (k_temporaryCounts : Nat → Int32) (k_keys : Nat → Int32) (k_kinds : Nat → Int32) (k_values : Nat → Int32) (k_temporaryKinds : Nat → Int32) (k_newKinds : Nat → Int32) (k_newValues : Nat → Int32) (t2_count : Int32) (t2_interfaceSet : Int32) (t2_supertypes : Nat → Int32) (m2_count : Int32) (m2_type : Nat → Int32) (m2_name : Nat → Int32) (m2_arity : Nat → Int32) (m2_keys : Nat → Int32) (m2_defaults : Nat → Int32) (k2_count : Int32) (k2_frozenSet : Int32) (k2_staticType : Nat → Int32) (k2_dynamicType : Nat → Int32) (k2_target : Nat → Int32) (k2_argumentCounts : Nat → Int32) (k2_temporaryCounts : Nat → Int32) (k2_keys : Nat → Int32) (k2_kinds : Nat → Int32) (k2_values : Nat → Int32) (k2_temporaryKinds : Nat → Int32) (k2_newKinds : Nat → Int32) (k2_newValues : Nat → Int32) : va_W := [(a_o, .inr (6, [.ref a_t, .ref a_m, .ref a_k])), (a_t, .inr (7, [.int t_count, .int t_interfaceSet, .ref a_t_supertypes])), (a_t_supertypes, .inl (cI, 8, .inl t_supertypes)), (a_m, .inr (5, [.int m_count, .ref a_m_type, .ref a_m_name, .ref a_m_arity, .ref a_m_keys, .ref a_m_defaults])), (a_m_type, .inl (cI, 16, .inl m_type)), (a_m_name, .inl (cI, 16, .inl m_name)), (a_m_arity, .inl (cI, 16, .inl m_arity)), (a_m_keys, .inl (cI, 80, .inl m_keys)), (a_m_defaults, .inl (cI, 80, .inl m_defaults)), (a_k, .inr (0, [.int k_count, .int k_frozenSet, .ref a_k_staticType, .ref a_k_dynamicType, .ref a_k_target, .ref a_k_argumentCounts, .ref a_k_temporaryCounts, .ref a_k_keys, .ref a_k_kinds, .ref a_k_values, .ref a_k_temporaryKinds, .ref a_k_newKinds, .ref a_k_newValues])), (a_k_staticType, .inl (cI, 8, .inl k_staticType)), (a_k_dynamicType, .inl (cI, 8, .inl k_dynamicType)), (a_k_target, .inl (cI, 8, .inl k_target)), (a_k_argumentCounts, .inl (cI, 8, .inl k_argumentCounts)), (a_k_temporaryCounts, .inl (cI, 8, .inl k_temporaryCounts)), (a_k_keys, .inl (cI, 40, .inl k_keys)), (a_k_kinds, .inl (cI, 40, .inl k_kinds)), (a_k_values, .inl (cI, 40, .inl k_values)), (a_k_temporaryKinds, .inl (cI, 64, .inl k_temporaryKinds)), (a_k_newKinds, .inl (cI, 5, .inl k_newKinds)), (a_k_newValues, .inl (cI, 5, .inl k_newValues)), (a_o2, .inr (6, [.ref a_t2, .ref a_m2, .ref a_k2])), (a_t2, .inr (7, [.int t2_count, .int t2_interfaceSet, .ref a_t2_supertypes])), (a_t2_supertypes, .inl (cI, 8, .inl t2_supertypes)), (a_m2, .inr (5, [.int m2_count, .ref a_m2_type, .ref a_m2_name, .ref a_m2_arity, .ref a_m2_keys, .ref a_m2_defaults])), (a_m2_type, .inl (cI, 16, .inl m2_type)), (a_m2_name, .inl (cI, 16, .inl m2_name)), (a_m2_arity, .inl (cI, 16, .inl m2_arity)), (a_m2_keys, .inl (cI, 80, .inl m2_keys)), (a_m2_defaults, .inl (cI, 80, .inl m2_defaults)), (a_k2, .inr (0, [.int k2_count, .int k2_frozenSet, .ref a_k2_staticType, .ref a_k2_dynamicType, .ref a_k2_target, .ref a_k2_argumentCounts, .ref a_k2_temporaryCounts, .ref a_k2_keys, .ref a_k2_kinds, .ref a_k2_values, .ref a_k2_temporaryKinds, .ref a_k2_newKinds, .ref a_k2_newValues])), (a_k2_staticType, .inl (cI, 8, .inl k2_staticType)), (a_k2_dynamicType, .inl (cI, 8, .inl k2_dynamicType)), (a_k2_target, .inl (cI, 8, .inl k2_target)), (a_k2_argumentCounts, .inl (cI, 8, .inl k2_argumentCounts)), (a_k2_temporaryCounts, .inl (cI, 8, .inl k2_temporaryCounts)), (a_k2_keys, .inl (cI, 40, .inl k2_keys)), (a_k2_kinds, .inl (cI, 40, .inl k2_kinds)), (a_k2_values, .inl (cI, 40, .inl k2_values)), (a_k2_temporaryKinds, .inl (cI, 64, .inl k2_temporaryKinds)), (a_k2_newKinds, .inl (cI, 5, .inl k2_newKinds)), (a_k2_newValues, .inl (cI, 5, .inl k2_newValues))]
abbrev W_g_k_d (cI cM : ClassId) (a_g a_g_kinds a_g_positions a_k a_k_staticType a_k_dynamicType a_k_target a_k_argumentCounts a_k_temporaryCounts a_k_keys a_k_kinds a_k_values a_k_temporaryKinds a_k_newKinds a_k_newValues a_d a_d_sources a_d_keys a_d_defaults : Nat) (g_count : Int32) (g_kept : Int32) (g_kinds : Nat → Int32) (g_positions : Nat → Int32) (k_count : Int32) (k_frozenSet : Int32) (k_staticType : Nat → Int32) (k_dynamicType : Nat → Int32) (k_target : Nat → Int32) (k_argumentCounts : Nat → Int32) (k_temporaryCounts : Nat → Int32) (k_keys : Nat → Int32) (k_kinds : Nat → Int32) (k_values : Nat → Int32) (k_temporaryKinds : Nat → Int32) (k_newKinds : Nat → Int32) (k_newValues : Nat → Int32) (d_open : Int32) (d_method : Int32) (d_family : Int32) (d_oldCount : Int32) (d_keptSet : Int32) (d_count : Int32) (d_sources : Nat → Int32) (d_keys : Nat → Int32) (d_defaults : Nat → Int32) (d_usedKeys : Int32) : va_W := [(a_g, .inr (4, [.int g_count, .int g_kept, .ref a_g_kinds, .ref a_g_positions])), (a_g_kinds, .inl (cI, 5, .inl g_kinds)), (a_g_positions, .inl (cI, 5, .inl g_positions)), (a_k, .inr (0, [.int k_count, .int k_frozenSet, .ref a_k_staticType, .ref a_k_dynamicType, .ref a_k_target, .ref a_k_argumentCounts, .ref a_k_temporaryCounts, .ref a_k_keys, .ref a_k_kinds, .ref a_k_values, .ref a_k_temporaryKinds, .ref a_k_newKinds, .ref a_k_newValues])), (a_k_staticType, .inl (cI, 8, .inl k_staticType)), (a_k_dynamicType, .inl (cI, 8, .inl k_dynamicType)), (a_k_target, .inl (cI, 8, .inl k_target)), (a_k_argumentCounts, .inl (cI, 8, .inl k_argumentCounts)), (a_k_temporaryCounts, .inl (cI, 8, .inl k_temporaryCounts)), (a_k_keys, .inl (cI, 40, .inl k_keys)), (a_k_kinds, .inl (cI, 40, .inl k_kinds)), (a_k_values, .inl (cI, 40, .inl k_values)), (a_k_temporaryKinds, .inl (cI, 64, .inl k_temporaryKinds)), (a_k_newKinds, .inl (cI, 5, .inl k_newKinds)), (a_k_newValues, .inl (cI, 5, .inl k_newValues)), (a_d, .inr (1, [.int d_open, .int d_method, .int d_family, .int d_oldCount, .int d_keptSet, .int d_count, .ref a_d_sources, .ref a_d_keys, .ref a_d_defaults, .int d_usedKeys])), (a_d_sources, .inl (cI, 5, .inl d_sources)), (a_d_keys, .inl (cI, 5, .inl d_keys)), (a_d_defaults, .inl (cI, 5, .inl d_defaults))]
abbrev W_g (cI cM : ClassId) (a_g a_g_kinds a_g_positions : Nat) (g_count : Int32) (g_kept : Int32) (g_kinds : Nat → Int32) (g_positions : Nat → Int32) : va_W := [(a_g, .inr (4, [.int g_count, .int g_kept, .ref a_g_kinds, .ref a_g_positions])), (a_g_kinds, .inl (cI, 5, .inl g_kinds)), (a_g_positions, .inl (cI, 5, .inl g_positions))]
abbrev W_m_d (cI cM : ClassId) (a_m a_m_type a_m_name a_m_arity a_m_keys a_m_defaults a_d a_d_sources a_d_keys a_d_defaults : Nat) (m_count : Int32) (m_type : Nat → Int32) (m_name : Nat → Int32) (m_arity : Nat → Int32) (m_keys : Nat → Int32) (m_defaults : Nat → Int32) (d_open : Int32) (d_method : Int32) (d_family : Int32) (d_oldCount : Int32) (d_keptSet : Int32) (d_count : Int32) (d_sources : Nat → Int32) (d_keys : Nat → Int32) (d_defaults : Nat → Int32) (d_usedKeys : Int32) : va_W := [(a_m, .inr (5, [.int m_count, .ref a_m_type, .ref a_m_name, .ref a_m_arity, .ref a_m_keys, .ref a_m_defaults])), (a_m_type, .inl (cI, 16, .inl m_type)), (a_m_name, .inl (cI, 16, .inl m_name)), (a_m_arity, .inl (cI, 16, .inl m_arity)), (a_m_keys, .inl (cI, 80, .inl m_keys)), (a_m_defaults, .inl (cI, 80, .inl m_defaults)), (a_d, .inr (1, [.int d_open, .int d_method, .int d_family, .int d_oldCount, .int d_keptSet, .int d_count, .ref a_d_sources, .ref a_d_keys, .ref a_d_defaults, .int d_usedKeys])), (a_d_sources, .inl (cI, 5, .inl d_sources)), (a_d_keys, .inl (cI, 5, .inl d_keys)), (a_d_defaults, .inl (cI, 5, .inl d_defaults))]
abbrev W_t (cI cM : ClassId) (a_t a_t_supertypes : Nat) (t_count : Int32) (t_interfaceSet : Int32) (t_supertypes : Nat → Int32) : va_W := [(a_t, .inr (7, [.int t_count, .int t_interfaceSet, .ref a_t_supertypes])), (a_t_supertypes, .inl (cI, 8, .inl t_supertypes))]
abbrev W_o_t_m_k (cI cM : ClassId) (a_o a_t a_t_supertypes a_m a_m_type a_m_name a_m_arity a_m_keys a_m_defaults a_k a_k_staticType a_k_dynamicType a_k_target a_k_argumentCounts a_k_temporaryCounts a_k_keys a_k_kinds a_k_values a_k_temporaryKinds a_k_newKinds a_k_newValues : Nat) (t_count : Int32) (t_interfaceSet : Int32) (t_supertypes : Nat → Int32) (m_count : Int32) (m_type : Nat → Int32) (m_name : Nat → Int32) (m_arity : Nat → Int32) (m_keys : Nat → Int32) (m_defaults : Nat → Int32) (k_count : Int32) (k_frozenSet : Int32) (k_staticType : Nat → Int32) (k_dynamicType : Nat → Int32) (k_target : Nat → Int32) (k_argumentCounts : Nat → Int32) (k_temporaryCounts : Nat → Int32) (k_keys : Nat → Int32) (k_kinds : Nat → Int32) (k_values : Nat → Int32) (k_temporaryKinds : Nat → Int32) (k_newKinds : Nat → Int32) (k_newValues : Nat → Int32) : va_W := [(a_o, .inr (6, [.ref a_t, .ref a_m, .ref a_k])), (a_t, .inr (7, [.int t_count, .int t_interfaceSet, .ref a_t_supertypes])), (a_t_supertypes, .inl (cI, 8, .inl t_supertypes)), (a_m, .inr (5, [.int m_count, .ref a_m_type, .ref a_m_name, .ref a_m_arity, .ref a_m_keys, .ref a_m_defaults])), (a_m_type, .inl (cI, 16, .inl m_type)), (a_m_name, .inl (cI, 16, .inl m_name)), (a_m_arity, .inl (cI, 16, .inl m_arity)), (a_m_keys, .inl (cI, 80, .inl m_keys)), (a_m_defaults, .inl (cI, 80, .inl m_defaults)), (a_k, .inr (0, [.int k_count, .int k_frozenSet, .ref a_k_staticType, .ref a_k_dynamicType, .ref a_k_target, .ref a_k_argumentCounts, .ref a_k_temporaryCounts, .ref a_k_keys, .ref a_k_kinds, .ref a_k_values, .ref a_k_temporaryKinds, .ref a_k_newKinds, .ref a_k_newValues])), (a_k_staticType, .inl (cI, 8, .inl k_staticType)), (a_k_dynamicType, .inl (cI, 8, .inl k_dynamicType)), (a_k_target, .inl (cI, 8, .inl k_target)), (a_k_argumentCounts, .inl (cI, 8, .inl k_argumentCounts)), (a_k_temporaryCounts, .inl (cI, 8, .inl k_temporaryCounts)), (a_k_keys, .inl (cI, 40, .inl k_keys)), (a_k_kinds, .inl (cI, 40, .inl k_kinds)), (a_k_values, .inl (cI, 40, .inl k_values)), (a_k_temporaryKinds, .inl (cI, 64, .inl k_temporaryKinds)), (a_k_newKinds, .inl (cI, 5, .inl k_newKinds)), (a_k_newValues, .inl (cI, 5, .inl k_newValues))]
abbrev W_o_t_m_k_d (cI cM : ClassId) (a_o a_t a_t_supertypes a_m a_m_type a_m_name a_m_arity a_m_keys a_m_defaults a_k a_k_staticType a_k_dynamicType a_k_target a_k_argumentCounts a_k_temporaryCounts a_k_keys a_k_kinds a_k_values a_k_temporaryKinds a_k_newKinds a_k_newValues a_d a_d_sources a_d_keys a_d_defaults : Nat) (t_count : Int32) (t_interfaceSet : Int32) (t_supertypes : Nat → Int32) (m_count : Int32) (m_type : Nat → Int32) (m_name : Nat → Int32) (m_arity : Nat → Int32) (m_keys : Nat → Int32) (m_defaults : Nat → Int32) (k_count : Int32) (k_frozenSet : Int32) (k_staticType : Nat → Int32) (k_dynamicType : Nat → Int32) (k_target : Nat → Int32) (k_argumentCounts : Nat → Int32) (k_temporaryCounts : Nat → Int32) (k_keys : Nat → Int32) (k_kinds : Nat → Int32) (k_values : Nat → Int32) (k_temporaryKinds : Nat → Int32) (k_newKinds : Nat → Int32) (k_newValues : Nat → Int32) (d_open : Int32) (d_method : Int32) (d_family : Int32) (d_oldCount : Int32) (d_keptSet : Int32) (d_count : Int32) (d_sources : Nat → Int32) (d_keys : Nat → Int32) (d_defaults : Nat → Int32) (d_usedKeys : Int32) : va_W := [(a_o, .inr (6, [.ref a_t, .ref a_m, .ref a_k])), (a_t, .inr (7, [.int t_count, .int t_interfaceSet, .ref a_t_supertypes])), (a_t_supertypes, .inl (cI, 8, .inl t_supertypes)), (a_m, .inr (5, [.int m_count, .ref a_m_type, .ref a_m_name, .ref a_m_arity, .ref a_m_keys, .ref a_m_defaults])), (a_m_type, .inl (cI, 16, .inl m_type)), (a_m_name, .inl (cI, 16, .inl m_name)), (a_m_arity, .inl (cI, 16, .inl m_arity)), (a_m_keys, .inl (cI, 80, .inl m_keys)), (a_m_defaults, .inl (cI, 80, .inl m_defaults)), (a_k, .inr (0, [.int k_count, .int k_frozenSet, .ref a_k_staticType, .ref a_k_dynamicType, .ref a_k_target, .ref a_k_argumentCounts, .ref a_k_temporaryCounts, .ref a_k_keys, .ref a_k_kinds, .ref a_k_values, .ref a_k_temporaryKinds, .ref a_k_newKinds, .ref a_k_newValues])), (a_k_staticType, .inl (cI, 8, .inl k_staticType)), (a_k_dynamicType, .inl (cI, 8, .inl k_dynamicType)), (a_k_target, .inl (cI, 8, .inl k_target)), (a_k_argumentCounts, .inl (cI, 8, .inl k_argumentCounts)), (a_k_temporaryCounts, .inl (cI, 8, .inl k_temporaryCounts)), (a_k_keys, .inl (cI, 40, .inl k_keys)), (a_k_kinds, .inl (cI, 40, .inl k_kinds)), (a_k_values, .inl (cI, 40, .inl k_values)), (a_k_temporaryKinds, .inl (cI, 64, .inl k_temporaryKinds)), (a_k_newKinds, .inl (cI, 5, .inl k_newKinds)), (a_k_newValues, .inl (cI, 5, .inl k_newValues)), (a_d, .inr (1, [.int d_open, .int d_method, .int d_family, .int d_oldCount, .int d_keptSet, .int d_count, .ref a_d_sources, .ref a_d_keys, .ref a_d_defaults, .int d_usedKeys])), (a_d_sources, .inl (cI, 5, .inl d_sources)), (a_d_keys, .inl (cI, 5, .inl d_keys)), (a_d_defaults, .inl (cI, 5, .inl d_defaults))]
abbrev W_h_o_t_m_k (cI cM : ClassId) (a_h a_h_saved a_o a_t a_t_supertypes a_m a_m_type a_m_name a_m_arity a_m_keys a_m_defaults a_k a_k_staticType a_k_dynamicType a_k_target a_k_argumentCounts a_k_temporaryCounts a_k_keys a_k_kinds a_k_values a_k_temporaryKinds a_k_newKinds a_k_newValues : Nat) (a_h_ad : Nat → Nat → Nat) (h_count : Int32) (h_next : Int32) (t_count : Int32) (t_interfaceSet : Int32) (t_supertypes : Nat → Int32) (m_count : Int32) (m_type : Nat → Int32) (m_name : Nat → Int32) (m_arity : Nat → Int32) (m_keys : Nat → Int32) (m_defaults : Nat → Int32) (k_count : Int32) (k_frozenSet : Int32) (k_staticType : Nat → Int32) (k_dynamicType : Nat → Int32) (k_target : Nat → Int32) (k_argumentCounts : Nat → Int32) (k_temporaryCounts : Nat → Int32) (k_keys : Nat → Int32) (k_kinds : Nat → Int32) (k_values : Nat → Int32) (k_temporaryKinds : Nat → Int32) (k_newKinds : Nat → Int32) (k_newValues : Nat → Int32) : va_W := [(a_h, .inr (3, [.int h_count, .int h_next, .ref a_h_saved])), (a_h_saved, .inl (cM, 8, .inr (.inr (.inr (.inr (fun k => some (a_h_ad k 0))))))), (a_o, .inr (6, [.ref a_t, .ref a_m, .ref a_k])), (a_t, .inr (7, [.int t_count, .int t_interfaceSet, .ref a_t_supertypes])), (a_t_supertypes, .inl (cI, 8, .inl t_supertypes)), (a_m, .inr (5, [.int m_count, .ref a_m_type, .ref a_m_name, .ref a_m_arity, .ref a_m_keys, .ref a_m_defaults])), (a_m_type, .inl (cI, 16, .inl m_type)), (a_m_name, .inl (cI, 16, .inl m_name)), (a_m_arity, .inl (cI, 16, .inl m_arity)), (a_m_keys, .inl (cI, 80, .inl m_keys)), (a_m_defaults, .inl (cI, 80, .inl m_defaults)), (a_k, .inr (0, [.int k_count, .int k_frozenSet, .ref a_k_staticType, .ref a_k_dynamicType, .ref a_k_target, .ref a_k_argumentCounts, .ref a_k_temporaryCounts, .ref a_k_keys, .ref a_k_kinds, .ref a_k_values, .ref a_k_temporaryKinds, .ref a_k_newKinds, .ref a_k_newValues])), (a_k_staticType, .inl (cI, 8, .inl k_staticType)), (a_k_dynamicType, .inl (cI, 8, .inl k_dynamicType)), (a_k_target, .inl (cI, 8, .inl k_target)), (a_k_argumentCounts, .inl (cI, 8, .inl k_argumentCounts)), (a_k_temporaryCounts, .inl (cI, 8, .inl k_temporaryCounts)), (a_k_keys, .inl (cI, 40, .inl k_keys)), (a_k_kinds, .inl (cI, 40, .inl k_kinds)), (a_k_values, .inl (cI, 40, .inl k_values)), (a_k_temporaryKinds, .inl (cI, 64, .inl k_temporaryKinds)), (a_k_newKinds, .inl (cI, 5, .inl k_newKinds)), (a_k_newValues, .inl (cI, 5, .inl k_newValues))]
abbrev W_x_o_t_m_k_d_h_e_g (cI cM : ClassId) (a_x a_x_hoistedOfCall a_o a_t a_t_supertypes a_m a_m_type a_m_name a_m_arity a_m_keys a_m_defaults a_k a_k_staticType a_k_dynamicType a_k_target a_k_argumentCounts a_k_temporaryCounts a_k_keys a_k_kinds a_k_values a_k_temporaryKinds a_k_newKinds a_k_newValues a_d a_d_sources a_d_keys a_d_defaults a_h a_h_saved a_e a_e_temporaries a_e_arguments a_g a_g_kinds a_g_positions : Nat) (a_h_ad : Nat → Nat → Nat) (x_hoistedOfCall : Nat → Int32) (t_count : Int32) (t_interfaceSet : Int32) (t_supertypes : Nat → Int32) (m_count : Int32) (m_type : Nat → Int32) (m_name : Nat → Int32) (m_arity : Nat → Int32) (m_keys : Nat → Int32) (m_defaults : Nat → Int32) (k_count : Int32) (k_frozenSet : Int32) (k_staticType : Nat → Int32) (k_dynamicType : Nat → Int32) (k_target : Nat → Int32) (k_argumentCounts : Nat → Int32) (k_temporaryCounts : Nat → Int32) (k_keys : Nat → Int32) (k_kinds : Nat → Int32) (k_values : Nat → Int32) (k_temporaryKinds : Nat → Int32) (k_newKinds : Nat → Int32) (k_newValues : Nat → Int32) (d_open : Int32) (d_method : Int32) (d_family : Int32) (d_oldCount : Int32) (d_keptSet : Int32) (d_count : Int32) (d_sources : Nat → Int32) (d_keys : Nat → Int32) (d_defaults : Nat → Int32) (d_usedKeys : Int32) (h_count : Int32) (h_next : Int32) (e_counter : Int32) (e_temporaries : Nat → Int32) (e_arguments : Nat → Int32) (g_count : Int32) (g_kept : Int32) (g_kinds : Nat → Int32) (g_positions : Nat → Int32) : va_W := [(a_x, .inr (8, [.ref a_o, .ref a_d, .ref a_h, .ref a_e, .ref a_g, .ref a_x_hoistedOfCall])), (a_x_hoistedOfCall, .inl (cI, 8, .inl x_hoistedOfCall)), (a_o, .inr (6, [.ref a_t, .ref a_m, .ref a_k])), (a_t, .inr (7, [.int t_count, .int t_interfaceSet, .ref a_t_supertypes])), (a_t_supertypes, .inl (cI, 8, .inl t_supertypes)), (a_m, .inr (5, [.int m_count, .ref a_m_type, .ref a_m_name, .ref a_m_arity, .ref a_m_keys, .ref a_m_defaults])), (a_m_type, .inl (cI, 16, .inl m_type)), (a_m_name, .inl (cI, 16, .inl m_name)), (a_m_arity, .inl (cI, 16, .inl m_arity)), (a_m_keys, .inl (cI, 80, .inl m_keys)), (a_m_defaults, .inl (cI, 80, .inl m_defaults)), (a_k, .inr (0, [.int k_count, .int k_frozenSet, .ref a_k_staticType, .ref a_k_dynamicType, .ref a_k_target, .ref a_k_argumentCounts, .ref a_k_temporaryCounts, .ref a_k_keys, .ref a_k_kinds, .ref a_k_values, .ref a_k_temporaryKinds, .ref a_k_newKinds, .ref a_k_newValues])), (a_k_staticType, .inl (cI, 8, .inl k_staticType)), (a_k_dynamicType, .inl (cI, 8, .inl k_dynamicType)), (a_k_target, .inl (cI, 8, .inl k_target)), (a_k_argumentCounts, .inl (cI, 8, .inl k_argumentCounts)), (a_k_temporaryCounts, .inl (cI, 8, .inl k_temporaryCounts)), (a_k_keys, .inl (cI, 40, .inl k_keys)), (a_k_kinds, .inl (cI, 40, .inl k_kinds)), (a_k_values, .inl (cI, 40, .inl k_values)), (a_k_temporaryKinds, .inl (cI, 64, .inl k_temporaryKinds)), (a_k_newKinds, .inl (cI, 5, .inl k_newKinds)), (a_k_newValues, .inl (cI, 5, .inl k_newValues)), (a_d, .inr (1, [.int d_open, .int d_method, .int d_family, .int d_oldCount, .int d_keptSet, .int d_count, .ref a_d_sources, .ref a_d_keys, .ref a_d_defaults, .int d_usedKeys])), (a_d_sources, .inl (cI, 5, .inl d_sources)), (a_d_keys, .inl (cI, 5, .inl d_keys)), (a_d_defaults, .inl (cI, 5, .inl d_defaults)), (a_h, .inr (3, [.int h_count, .int h_next, .ref a_h_saved])), (a_h_saved, .inl (cM, 8, .inr (.inr (.inr (.inr (fun k => some (a_h_ad k 0))))))), (a_e, .inr (2, [.int e_counter, .ref a_e_temporaries, .ref a_e_arguments])), (a_e_temporaries, .inl (cI, 8, .inl e_temporaries)), (a_e_arguments, .inl (cI, 5, .inl e_arguments)), (a_g, .inr (4, [.int g_count, .int g_kept, .ref a_g_kinds, .ref a_g_positions])), (a_g_kinds, .inl (cI, 5, .inl g_kinds)), (a_g_positions, .inl (cI, 5, .inl g_positions))]
abbrev W_z (cI cM : ClassId) (a_z a_z_s a_z_past a_z_keeps a_z_entryKey a_z_entryDefault a_z_held a_z_values a_z_kinds a_z_news : Nat) (z_s : Nat → Int32) (z_past : Nat → Int32) (z_pasts : Int32) (z_changed : Int32) (z_entries : Int32) (z_keeps : Nat → Int32) (z_entryKey : Nat → Int32) (z_entryDefault : Nat → Int32) (z_counter : Int32) (z_held : Nat → Int32) (z_values : Nat → Int32) (z_kinds : Nat → Int32) (z_news : Nat → Int32) : va_W := [(a_z, .inr (9, [.ref a_z_s, .ref a_z_past, .int z_pasts, .int z_changed, .int z_entries, .ref a_z_keeps, .ref a_z_entryKey, .ref a_z_entryDefault, .int z_counter, .ref a_z_held, .ref a_z_values, .ref a_z_kinds, .ref a_z_news])), (a_z_s, .inl (cI, 467, .inl z_s)), (a_z_past, .inl (cI, 3736, .inl z_past)), (a_z_keeps, .inl (cI, 5, .inl z_keeps)), (a_z_entryKey, .inl (cI, 5, .inl z_entryKey)), (a_z_entryDefault, .inl (cI, 5, .inl z_entryDefault)), (a_z_held, .inl (cI, 8, .inl z_held)), (a_z_values, .inl (cI, 5, .inl z_values)), (a_z_kinds, .inl (cI, 5, .inl z_kinds)), (a_z_news, .inl (cI, 5, .inl z_news))]
def mW (cI cM : ClassId) (a : Nat → Nat) (u : MS) : va_W := W_o_t_m_k cI cM (a 0) (a 1) (a 2) (a 3) (a 4) (a 5) (a 6) (a 7) (a 8) (a 9) (a 10) (a 11) (a 12) (a 13) (a 14) (a 15) (a 16) (a 17) (a 18) (a 19) (a 20) u.1 u.2.1 u.2.2.1 u.2.2.2.1 u.2.2.2.2.1 u.2.2.2.2.2.1 u.2.2.2.2.2.2.1 u.2.2.2.2.2.2.2.1 u.2.2.2.2.2.2.2.2.1 u.2.2.2.2.2.2.2.2.2.1 u.2.2.2.2.2.2.2.2.2.2.1 u.2.2.2.2.2.2.2.2.2.2.2.1 u.2.2.2.2.2.2.2.2.2.2.2.2.1 u.2.2.2.2.2.2.2.2.2.2.2.2.2.1 u.2.2.2.2.2.2.2.2.2.2.2.2.2.2.1 u.2.2.2.2.2.2.2.2.2.2.2.2.2.2.2.1 u.2.2.2.2.2.2.2.2.2.2.2.2.2.2.2.2.1 u.2.2.2.2.2.2.2.2.2.2.2.2.2.2.2.2.2.1 u.2.2.2.2.2.2.2.2.2.2.2.2.2.2.2.2.2.2.1 u.2.2.2.2.2.2.2.2.2.2.2.2.2.2.2.2.2.2.2.1 u.2.2.2.2.2.2.2.2.2.2.2.2.2.2.2.2.2.2.2.2.1 u.2.2.2.2.2.2.2.2.2.2.2.2.2.2.2.2.2.2.2.2.2
def hW (cI cM : ClassId) (ad : Nat → Nat → Nat) (hs : Nat → MS) : va_W := (List.range 8).flatMap fun k => mW cI cM (ad k) (hs k)
abbrev rmX0_exists : Room := { frames := 0, cells := 0, slots := 0, locals := 0 }
abbrev rmX0_hasArgument : Room := { frames := 1, cells := 0, slots := 0, locals := 21 }
abbrev rmX8_contains : Room := { frames := 0, cells := 0, slots := 0, locals := 0 }
abbrev rmX0_isFrozen : Room := { frames := 1, cells := 0, slots := 0, locals := 21 }
abbrev rmX0_keyOf : Room := { frames := 0, cells := 0, slots := 0, locals := 0 }
abbrev rmX0_kindOf : Room := { frames := 0, cells := 0, slots := 0, locals := 0 }
abbrev rmX0_valueOf : Room := { frames := 0, cells := 0, slots := 0, locals := 0 }
abbrev rmX0_temporaryKindOf : Room := { frames := 0, cells := 0, slots := 0, locals := 0 }
abbrev rmX8_bit : Room := { frames := 0, cells := 0, slots := 0, locals := 0 }
abbrev rmX0_withTargetIn : Room := { frames := 1, cells := 0, slots := 0, locals := 21 }
abbrev rmX5_keyOf : Room := { frames := 0, cells := 0, slots := 0, locals := 0 }
abbrev rmX0_fitsTarget : Room := { frames := 1, cells := 0, slots := 0, locals := 22 }
abbrev rmX0_putArgument : Room := { frames := 0, cells := 0, slots := 0, locals := 0 }
abbrev rmX0_add : Room := { frames := 1, cells := 0, slots := 0, locals := 24 }
abbrev rmX0_hoist : Room := { frames := 1, cells := 0, slots := 0, locals := 24 }
abbrev rmX0_rearrange : Room := { frames := 1, cells := 0, slots := 0, locals := 24 }
abbrev rmX0_rewrite : Room := { frames := 2, cells := 0, slots := 0, locals := 48 }
abbrev rmX0_copyFrom : Room := { frames := 2, cells := 0, slots := 0, locals := 39 }
abbrev rmX5_keySetOf : Room := { frames := 1, cells := 0, slots := 0, locals := 22 }
abbrev rmX1_start : Room := { frames := 2, cells := 0, slots := 0, locals := 45 }
abbrev rmX1_close : Room := { frames := 0, cells := 0, slots := 0, locals := 0 }
abbrev rmX5_defaultOf : Room := { frames := 0, cells := 0, slots := 0, locals := 0 }
abbrev rmX1_append : Room := { frames := 0, cells := 0, slots := 0, locals := 0 }
abbrev rmX1_keep : Room := { frames := 1, cells := 0, slots := 0, locals := 23 }
abbrev rmX1_freeKey : Room := { frames := 1, cells := 0, slots := 0, locals := 21 }
abbrev rmX1_insert : Room := { frames := 2, cells := 0, slots := 0, locals := 42 }
abbrev rmX1_keepsWholeList : Room := { frames := 0, cells := 0, slots := 0, locals := 0 }
abbrev rmX2_readOrTick : Room := { frames := 0, cells := 0, slots := 0, locals := 0 }
abbrev rmX2_valueOf : Room := { frames := 1, cells := 0, slots := 0, locals := 22 }
abbrev rmX2_evaluate : Room := { frames := 2, cells := 0, slots := 0, locals := 44 }
abbrev rmX2_received : Room := { frames := 1, cells := 0, slots := 0, locals := 22 }
abbrev rmX2_resultOf : Room := { frames := 2, cells := 0, slots := 0, locals := 47 }
abbrev rmX7_copyFrom : Room := { frames := 2, cells := 0, slots := 0, locals := 39 }
abbrev rmX5_copyFrom : Room := { frames := 2, cells := 0, slots := 0, locals := 39 }
abbrev rmX6_copyFrom : Room := { frames := 3, cells := 0, slots := 0, locals := 60 }
abbrev rmX4_look : Room := { frames := 1, cells := 0, slots := 0, locals := 22 }
abbrev rmX4_ofKind : Room := { frames := 1, cells := 0, slots := 0, locals := 20 }
abbrev rmX8_conflict : Room := { frames := 0, cells := 0, slots := 0, locals := 0 }
abbrev rmX4_staysEarlier : Room := { frames := 1, cells := 0, slots := 0, locals := 21 }
abbrev rmX4_keepsOrder : Room := { frames := 2, cells := 0, slots := 0, locals := 44 }
abbrev rmJ6_bitCount_0f7a4 : Room := { frames := 0, cells := 0, slots := 0, locals := 0 }
abbrev rmX4_choose : Room := { frames := 3, cells := 0, slots := 0, locals := 70 }
abbrev rmX5_exists : Room := { frames := 0, cells := 0, slots := 0, locals := 0 }
abbrev rmX5_withSignature : Room := { frames := 1, cells := 0, slots := 0, locals := 21 }
abbrev rmX5_smallest : Room := { frames := 1, cells := 0, slots := 0, locals := 21 }
abbrev rmX5_declaredBy : Room := { frames := 2, cells := 0, slots := 0, locals := 47 }
abbrev rmX5_typesOf : Room := { frames := 1, cells := 0, slots := 0, locals := 21 }
abbrev rmX5_sameParameters : Room := { frames := 1, cells := 0, slots := 0, locals := 22 }
abbrev rmX5_agree : Room := { frames := 2, cells := 0, slots := 0, locals := 46 }
abbrev rmX5_disagreeWithin : Room := { frames := 3, cells := 0, slots := 0, locals := 69 }
abbrev rmX5_putParameter : Room := { frames := 0, cells := 0, slots := 0, locals := 0 }
abbrev rmX5_add : Room := { frames := 1, cells := 0, slots := 0, locals := 24 }
abbrev rmX5_replaceParameters : Room := { frames := 1, cells := 0, slots := 0, locals := 24 }
abbrev rmX7_connectedWith : Room := { frames := 0, cells := 0, slots := 0, locals := 0 }
abbrev rmX6_familyOf : Room := { frames := 2, cells := 0, slots := 0, locals := 47 }
abbrev rmX6_targetFor : Room := { frames := 2, cells := 0, slots := 0, locals := 47 }
abbrev rmX6_classMethod : Room := { frames := 3, cells := 0, slots := 0, locals := 70 }
abbrev rmX7_inherits : Room := { frames := 1, cells := 0, slots := 0, locals := 21 }
abbrev rmX6_hasSubtypeIn : Room := { frames := 2, cells := 0, slots := 0, locals := 43 }
abbrev rmX6_interfaceMethod : Room := { frames := 3, cells := 0, slots := 0, locals := 70 }
abbrev rmX6_executedBy : Room := { frames := 4, cells := 0, slots := 0, locals := 95 }
abbrev rmX6_clashOf : Room := { frames := 2, cells := 0, slots := 0, locals := 47 }
abbrev rmX6_bridgesServe : Room := { frames := 1, cells := 0, slots := 0, locals := 21 }
abbrev rmX6_bridgesFor : Room := { frames := 2, cells := 0, slots := 0, locals := 45 }
abbrev rmX7_exists : Room := { frames := 0, cells := 0, slots := 0, locals := 0 }
abbrev rmX7_isClass : Room := { frames := 1, cells := 0, slots := 0, locals := 21 }
abbrev rmX7_areInterfaces : Room := { frames := 0, cells := 0, slots := 0, locals := 0 }
abbrev rmX7_allowsSuperclass : Room := { frames := 2, cells := 0, slots := 0, locals := 42 }
abbrev rmX7_inheritedFrom : Room := { frames := 1, cells := 0, slots := 0, locals := 21 }
abbrev rmX7_add : Room := { frames := 1, cells := 0, slots := 0, locals := 20 }
abbrev rmX8_beginEdit : Room := { frames := 5, cells := 0, slots := 0, locals := 102 }
abbrev rmX8_declareType : Room := { frames := 6, cells := 0, slots := 0, locals := 122 }
abbrev rmX8_isSignature : Room := { frames := 0, cells := 0, slots := 0, locals := 0 }
abbrev rmX8_declareMethod : Room := { frames := 6, cells := 0, slots := 0, locals := 122 }
abbrev rmX8_declareCall : Room := { frames := 6, cells := 0, slots := 0, locals := 122 }
abbrev rmX8_isValue : Room := { frames := 0, cells := 0, slots := 0, locals := 0 }
abbrev rmX8_isExpression : Room := { frames := 1, cells := 0, slots := 0, locals := 20 }
abbrev rmX8_setArgument : Room := { frames := 6, cells := 0, slots := 0, locals := 122 }
abbrev rmX8_setFrozen : Room := { frames := 6, cells := 0, slots := 0, locals := 122 }
abbrev rmX8_typeCount : Room := { frames := 0, cells := 0, slots := 0, locals := 0 }
abbrev rmX8_isSubtype : Room := { frames := 2, cells := 0, slots := 0, locals := 43 }
abbrev rmX8_family : Room := { frames := 3, cells := 0, slots := 0, locals := 74 }
abbrev rmX8_parameterCount : Room := { frames := 1, cells := 0, slots := 0, locals := 21 }
abbrev rmX8_parameterKey : Room := { frames := 1, cells := 0, slots := 0, locals := 22 }
abbrev rmX8_dispatch : Room := { frames := 5, cells := 0, slots := 0, locals := 120 }
abbrev rmX8_run : Room := { frames := 5, cells := 0, slots := 0, locals := 120 }
abbrev rmX8_ticks : Room := { frames := 3, cells := 0, slots := 0, locals := 67 }
abbrev rmX8_argumentCount : Room := { frames := 1, cells := 0, slots := 0, locals := 21 }
abbrev rmX8_argumentKind : Room := { frames := 2, cells := 0, slots := 0, locals := 43 }
abbrev rmX8_temporaryCount : Room := { frames := 1, cells := 0, slots := 0, locals := 21 }
abbrev rmX8_startChange : Room := { frames := 3, cells := 0, slots := 0, locals := 74 }
abbrev rmX8_keepParameter : Room := { frames := 2, cells := 0, slots := 0, locals := 45 }
abbrev rmX8_insertParameter : Room := { frames := 3, cells := 0, slots := 0, locals := 64 }
abbrev rmX8_clashingMethod : Room := { frames := 3, cells := 0, slots := 0, locals := 70 }
abbrev rmX8_rewrittenCalls : Room := { frames := 2, cells := 0, slots := 0, locals := 44 }
abbrev rmX8_hoistedArguments : Room := { frames := 4, cells := 0, slots := 0, locals := 99 }
abbrev rmX8_bridgeTypes : Room := { frames := 3, cells := 0, slots := 0, locals := 72 }
abbrev rmX8_breaksFrozenCall : Room := { frames := 2, cells := 0, slots := 0, locals := 44 }
abbrev rmX8_chooseHoisted : Room := { frames := 4, cells := 0, slots := 0, locals := 99 }
abbrev rmX8_applyChange : Room := { frames := 5, cells := 0, slots := 0, locals := 123 }
abbrev rmX8_undo : Room := { frames := 5, cells := 0, slots := 0, locals := 102 }
abbrev rmX9_in : Room := { frames := 0, cells := 0, slots := 0, locals := 0 }
abbrev rmX9_has : Room := { frames := 0, cells := 0, slots := 0, locals := 0 }
abbrev rmX9_edit : Room := { frames := 0, cells := 0, slots := 0, locals := 0 }
abbrev rmX9_undo : Room := { frames := 0, cells := 0, slots := 0, locals := 0 }
abbrev rmX9_isType : Room := { frames := 1, cells := 0, slots := 0, locals := 22 }
abbrev rmX9_isInterface : Room := { frames := 0, cells := 0, slots := 0, locals := 0 }
abbrev rmX9_closed : Room := { frames := 1, cells := 0, slots := 0, locals := 21 }
abbrev rmX9_supers : Room := { frames := 2, cells := 0, slots := 0, locals := 44 }
abbrev rmX9_areConnected : Room := { frames := 3, cells := 0, slots := 0, locals := 65 }
abbrev rmX9_allInterfaces : Room := { frames := 1, cells := 0, slots := 0, locals := 21 }
abbrev rmX9_of : Room := { frames := 0, cells := 0, slots := 0, locals := 0 }
abbrev rmX9_isMethod : Room := { frames := 1, cells := 0, slots := 0, locals := 22 }
abbrev rmX9_isNamed : Room := { frames := 1, cells := 0, slots := 0, locals := 22 }
abbrev rmX9_areAlikeNamed : Room := { frames := 2, cells := 0, slots := 0, locals := 45 }
abbrev rmX9_haveSameList : Room := { frames := 1, cells := 0, slots := 0, locals := 22 }
abbrev rmX9_areAtOdds : Room := { frames := 3, cells := 0, slots := 0, locals := 67 }
abbrev rmX9_declareType : Room := { frames := 4, cells := 0, slots := 0, locals := 91 }
abbrev rmX9_relatives : Room := { frames := 4, cells := 0, slots := 0, locals := 89 }
abbrev rmX9_lowest : Room := { frames := 1, cells := 0, slots := 0, locals := 21 }
abbrev rmX9_haveOneList : Room := { frames := 2, cells := 0, slots := 0, locals := 46 }
abbrev rmX9_declares : Room := { frames := 2, cells := 0, slots := 0, locals := 45 }
abbrev rmX9_declareMethod : Room := { frames := 5, cells := 0, slots := 0, locals := 114 }
abbrev rmX9_familyOf : Room := { frames := 5, cells := 0, slots := 0, locals := 114 }
abbrev rmX9_typeCount : Room := { frames := 0, cells := 0, slots := 0, locals := 0 }
abbrev rmX9_isSubtype : Room := { frames := 3, cells := 0, slots := 0, locals := 65 }
abbrev rmX9_family : Room := { frames := 6, cells := 0, slots := 0, locals := 139 }
abbrev rmX9_parameterCount : Room := { frames := 2, cells := 0, slots := 0, locals := 43 }
abbrev rmX9_parameterKey : Room := { frames := 2, cells := 0, slots := 0, locals := 43 }
abbrev rmX9_at : Room := { frames := 0, cells := 0, slots := 0, locals := 0 }
abbrev rmX9_isCall : Room := { frames := 1, cells := 0, slots := 0, locals := 22 }
abbrev rmX9_isFrozen : Room := { frames := 1, cells := 0, slots := 0, locals := 22 }
abbrev rmX9_targetOf : Room := { frames := 3, cells := 0, slots := 0, locals := 65 }
abbrev rmX9_declareCall : Room := { frames := 4, cells := 0, slots := 0, locals := 89 }
abbrev rmX9_isArgument : Room := { frames := 2, cells := 0, slots := 0, locals := 43 }
abbrev rmX9_setArgument : Room := { frames := 3, cells := 0, slots := 0, locals := 65 }
abbrev rmX9_isUpToDate : Room := { frames := 1, cells := 0, slots := 0, locals := 22 }
abbrev rmX9_setFrozen : Room := { frames := 2, cells := 0, slots := 0, locals := 47 }
abbrev rmX9_declaredBy : Room := { frames := 3, cells := 0, slots := 0, locals := 67 }
abbrev rmX9_isOverridden : Room := { frames := 4, cells := 0, slots := 0, locals := 90 }
abbrev rmX9_dispatched : Room := { frames := 5, cells := 0, slots := 0, locals := 116 }
abbrev rmX9_evaluate : Room := { frames := 0, cells := 0, slots := 0, locals := 0 }
abbrev rmX9_evaluateAll : Room := { frames := 1, cells := 0, slots := 0, locals := 22 }
abbrev rmX9_valueFor : Room := { frames := 1, cells := 0, slots := 0, locals := 22 }
abbrev rmX9_dispatch : Room := { frames := 6, cells := 0, slots := 0, locals := 141 }
abbrev rmX9_run : Room := { frames := 6, cells := 0, slots := 0, locals := 141 }
abbrev rmX9_ticks : Room := { frames := 2, cells := 0, slots := 0, locals := 44 }
abbrev rmX9_argumentCount : Room := { frames := 2, cells := 0, slots := 0, locals := 43 }
abbrev rmX9_argumentKind : Room := { frames := 3, cells := 0, slots := 0, locals := 65 }
abbrev rmX9_temporaryCount : Room := { frames := 2, cells := 0, slots := 0, locals := 43 }
abbrev rmX9_ones : Room := { frames := 0, cells := 0, slots := 0, locals := 0 }
abbrev rmX9_startChange : Room := { frames := 6, cells := 0, slots := 0, locals := 139 }
abbrev rmX9_entryOf : Room := { frames := 0, cells := 0, slots := 0, locals := 0 }
abbrev rmX9_keepParameter : Room := { frames := 1, cells := 0, slots := 0, locals := 22 }
abbrev rmX9_isTaken : Room := { frames := 1, cells := 0, slots := 0, locals := 22 }
abbrev rmX9_insertParameter : Room := { frames := 2, cells := 0, slots := 0, locals := 45 }
abbrev rmX9_clashes : Room := { frames := 4, cells := 0, slots := 0, locals := 89 }
abbrev rmX9_clash : Room := { frames := 6, cells := 0, slots := 0, locals := 139 }
abbrev rmX9_clashingMethod : Room := { frames := 7, cells := 0, slots := 0, locals := 161 }
abbrev rmX9_isConcerned : Room := { frames := 6, cells := 0, slots := 0, locals := 139 }
abbrev rmX9_kindOf : Room := { frames := 1, cells := 0, slots := 0, locals := 22 }
abbrev rmX9_doesCount : Room := { frames := 2, cells := 0, slots := 0, locals := 44 }
abbrev rmX9_turnOf : Room := { frames := 1, cells := 0, slots := 0, locals := 22 }
abbrev rmX9_mayHoist : Room := { frames := 3, cells := 0, slots := 0, locals := 66 }
abbrev rmX9_hoistedOf : Room := { frames := 4, cells := 0, slots := 0, locals := 96 }
abbrev rmX9_hoistedArguments : Room := { frames := 7, cells := 0, slots := 0, locals := 160 }
abbrev rmX9_isServed : Room := { frames := 3, cells := 0, slots := 0, locals := 65 }
abbrev rmX9_areSufficient : Room := { frames := 7, cells := 0, slots := 0, locals := 160 }
abbrev rmX9_declaringTypes : Room := { frames := 6, cells := 0, slots := 0, locals := 139 }
abbrev rmX9_bridgeTypes : Room := { frames := 8, cells := 0, slots := 0, locals := 183 }
abbrev rmX9_hasSameKeys : Room := { frames := 1, cells := 0, slots := 0, locals := 22 }
abbrev rmX9_isBarred : Room := { frames := 7, cells := 0, slots := 0, locals := 160 }
abbrev rmX9_hasRoom : Room := { frames := 7, cells := 0, slots := 0, locals := 160 }
abbrev rmX9_rewrite : Room := { frames := 5, cells := 0, slots := 0, locals := 120 }
abbrev rmX9_change : Room := { frames := 0, cells := 0, slots := 0, locals := 0 }
abbrev rmX9_applyChange : Room := { frames := 8, cells := 0, slots := 0, locals := 182 }
def fX0_exists (k_count : Int32) (x1 : Int32) : Option (Int32) :=
  if x1 < 0 then (
    some 0)
  else (
    if k_count ≤ x1 then (
      some 0)
    else (
      some 1))
def fX0_hasArgument (k_count : Int32) (k_argumentCounts : Nat → Int32) (x1 : Int32) (x2 : Int32) : Option (Int32) :=
  bn (fX0_exists k_count x1) fun v1 =>
  if v1 = 0 then (
    some 0)
  else (
    if x2 < 0 then (
      some 0)
    else (
      rd 8 k_argumentCounts x1 fun v5 =>
      if v5 ≤ x2 then (
        some 0)
      else (
        some 1)))
def fX8_contains  (x0 : Int32) (x1 : Int32) : Option (Int32) :=
  if (x0 &&& (1 <<< (x1 &&& 31))) = 0 then (
    some 0)
  else (
    some 1)
def fX0_isFrozen (k_frozenSet : Int32) (x1 : Int32) : Option (Int32) :=
  bn (fX8_contains k_frozenSet x1) fun v1 =>
  rb v1
def fX0_keyOf (k_keys : Nat → Int32) (x1 : Int32) (x2 : Int32) : Option (Int32) :=
  rd 40 k_keys ((x1 * 5) + x2) fun v1 =>
  some v1
def fX0_kindOf (k_kinds : Nat → Int32) (x1 : Int32) (x2 : Int32) : Option (Int32) :=
  rd 40 k_kinds ((x1 * 5) + x2) fun v1 =>
  some v1
def fX0_valueOf (k_values : Nat → Int32) (x1 : Int32) (x2 : Int32) : Option (Int32) :=
  rd 40 k_values ((x1 * 5) + x2) fun v1 =>
  some v1
def fX0_temporaryKindOf (k_temporaryKinds : Nat → Int32) (x1 : Int32) (x2 : Int32) : Option (Int32) :=
  rd 64 k_temporaryKinds ((x1 * 8) + x2) fun v1 =>
  some v1
def fX8_bit  (x0 : Int32) : Option (Int32) :=
  some (1 <<< (x0 &&& 31))
def lX0_withTargetIn_4 (k_count : Int32) (k_target : Nat → Int32) : Nat → Int32 → Int32 → Int32 → Option (Int32)
  | 0, _, _, _ => none
  | n + 1, y1, y2, y3 =>
    if k_count ≤ y3 then (
      some y2)
    else (
      rd 8 k_target y3 fun v2 =>
      bn (fX8_contains y1 v2) fun v3 =>
      if v3 = 0 then (
        lX0_withTargetIn_4 k_count k_target n y1 y2 (y3 + 1))
      else (
        bn (fX8_bit y3) fun v5 =>
        lX0_withTargetIn_4 k_count k_target n y1 (y2 ||| v5) (y3 + 1)))
theorem lX0_withTargetIn_4_s (k_count : Int32) (k_target : Nat → Int32) (n : Nat) (y1 : Int32) (y2 : Int32) (y3 : Int32) : lX0_withTargetIn_4 k_count k_target (n + 1) y1 y2 y3 =
    if k_count ≤ y3 then (
      some y2)
    else (
      rd 8 k_target y3 fun v2 =>
      bn (fX8_contains y1 v2) fun v3 =>
      if v3 = 0 then (
        lX0_withTargetIn_4 k_count k_target n y1 y2 (y3 + 1))
      else (
        bn (fX8_bit y3) fun v5 =>
        lX0_withTargetIn_4 k_count k_target n y1 (y2 ||| v5) (y3 + 1))) := rfl
def fX0_withTargetIn (k_count : Int32) (k_target : Nat → Int32) (x1 : Int32) : Option (Int32) :=
  lX0_withTargetIn_4 k_count k_target 5000 x1 0 0
def fX5_keyOf (m_keys : Nat → Int32) (x1 : Int32) (x2 : Int32) : Option (Int32) :=
  rd 80 m_keys ((x1 * 5) + x2) fun v1 =>
  some v1
def lX0_fitsTarget_27 (k_target : Nat → Int32) (k_argumentCounts : Nat → Int32) (k_keys : Nat → Int32) (m_arity : Nat → Int32) (m_keys : Nat → Int32) : Nat → Int32 → Int32 → Int32 → Option (Int32)
  | 0, _, _, _ => none
  | n + 1, y1, y3, y4 =>
    rd 8 k_argumentCounts y1 fun v1 =>
    if v1 ≤ y4 then (
      some 1)
    else (
      bn (fX0_keyOf k_keys y1 y4) fun v3 =>
      bn (fX5_keyOf m_keys y3 y4) fun v5 =>
      if v3 = v5 then (
        lX0_fitsTarget_27 k_target k_argumentCounts k_keys m_arity m_keys n y1 y3 (y4 + 1))
      else (
        some 0))
theorem lX0_fitsTarget_27_s (k_target : Nat → Int32) (k_argumentCounts : Nat → Int32) (k_keys : Nat → Int32) (m_arity : Nat → Int32) (m_keys : Nat → Int32) (n : Nat) (y1 : Int32) (y3 : Int32) (y4 : Int32) : lX0_fitsTarget_27 k_target k_argumentCounts k_keys m_arity m_keys (n + 1) y1 y3 y4 =
    rd 8 k_argumentCounts y1 fun v1 =>
    if v1 ≤ y4 then (
      some 1)
    else (
      bn (fX0_keyOf k_keys y1 y4) fun v3 =>
      bn (fX5_keyOf m_keys y3 y4) fun v5 =>
      if v3 = v5 then (
        lX0_fitsTarget_27 k_target k_argumentCounts k_keys m_arity m_keys n y1 y3 (y4 + 1))
      else (
        some 0)) := rfl
def fX0_fitsTarget (k_target : Nat → Int32) (k_argumentCounts : Nat → Int32) (k_keys : Nat → Int32) (m_arity : Nat → Int32) (m_keys : Nat → Int32) (x1 : Int32) : Option (Int32) :=
  rd 8 k_target x1 fun v1 =>
  rd 8 k_argumentCounts x1 fun v2 =>
  rd 16 m_arity v1 fun v3 =>
  if v2 = v3 then (
    lX0_fitsTarget_27 k_target k_argumentCounts k_keys m_arity m_keys 5000 x1 v1 0)
  else (
    some 0)
def fX0_putArgument (k_kinds : Nat → Int32) (k_values : Nat → Int32) (x1 : Int32) (x2 : Int32) (x3 : Int32) (x4 : Int32) : Option ((Nat → Int32) × (Nat → Int32)) :=
  wr 40 k_kinds ((x1 * 5) + x2) x3 fun g1 =>
  wr 40 k_values ((x1 * 5) + x2) x4 fun g2 =>
  some (g1, g2)
def lX0_add_55 (m_arity : Nat → Int32) (m_keys : Nat → Int32) : Nat → (Int32) → (Nat → Int32) → (Nat → Int32) → (Nat → Int32) → (Nat → Int32) → (Nat → Int32) → (Nat → Int32) → (Nat → Int32) → (Nat → Int32) → Int32 → Int32 → Int32 → Option (Int32 × Int32 × (Nat → Int32) × (Nat → Int32) × (Nat → Int32) × (Nat → Int32) × (Nat → Int32) × (Nat → Int32) × (Nat → Int32) × (Nat → Int32))
  | 0, _, _, _, _, _, _, _, _, _, _, _, _ => none
  | n + 1, k_count, k_staticType, k_dynamicType, k_target, k_argumentCounts, k_temporaryCounts, k_keys, k_kinds, k_values, y3, y5, y6 =>
    rd 16 m_arity y3 fun v1 =>
    if v1 ≤ y6 then (
      some (y5, k_count + 1, k_staticType, k_dynamicType, k_target, k_argumentCounts, k_temporaryCounts, k_keys, k_kinds, k_values))
    else (
      bn (fX5_keyOf m_keys y3 y6) fun v3 =>
      wr 40 k_keys ((y5 * 5) + y6) v3 fun g5 =>
      bn2 (fX0_putArgument k_kinds k_values y5 y6 0 0) fun g6 g7 =>
      lX0_add_55 m_arity m_keys n k_count k_staticType k_dynamicType k_target k_argumentCounts k_temporaryCounts g5 g6 g7 y3 y5 (y6 + 1))
theorem lX0_add_55_s (m_arity : Nat → Int32) (m_keys : Nat → Int32) (n : Nat) (k_count : Int32) (k_staticType : Nat → Int32) (k_dynamicType : Nat → Int32) (k_target : Nat → Int32) (k_argumentCounts : Nat → Int32) (k_temporaryCounts : Nat → Int32) (k_keys : Nat → Int32) (k_kinds : Nat → Int32) (k_values : Nat → Int32) (y3 : Int32) (y5 : Int32) (y6 : Int32) : lX0_add_55 m_arity m_keys (n + 1) k_count k_staticType k_dynamicType k_target k_argumentCounts k_temporaryCounts k_keys k_kinds k_values y3 y5 y6 =
    rd 16 m_arity y3 fun v1 =>
    if v1 ≤ y6 then (
      some (y5, k_count + 1, k_staticType, k_dynamicType, k_target, k_argumentCounts, k_temporaryCounts, k_keys, k_kinds, k_values))
    else (
      bn (fX5_keyOf m_keys y3 y6) fun v3 =>
      wr 40 k_keys ((y5 * 5) + y6) v3 fun g5 =>
      bn2 (fX0_putArgument k_kinds k_values y5 y6 0 0) fun g6 g7 =>
      lX0_add_55 m_arity m_keys n k_count k_staticType k_dynamicType k_target k_argumentCounts k_temporaryCounts g5 g6 g7 y3 y5 (y6 + 1)) := rfl
def fX0_add (k_count : Int32) (k_staticType : Nat → Int32) (k_dynamicType : Nat → Int32) (k_target : Nat → Int32) (k_argumentCounts : Nat → Int32) (k_temporaryCounts : Nat → Int32) (k_keys : Nat → Int32) (k_kinds : Nat → Int32) (k_values : Nat → Int32) (m_arity : Nat → Int32) (m_keys : Nat → Int32) (x1 : Int32) (x2 : Int32) (x3 : Int32) : Option (Int32 × Int32 × (Nat → Int32) × (Nat → Int32) × (Nat → Int32) × (Nat → Int32) × (Nat → Int32) × (Nat → Int32) × (Nat → Int32) × (Nat → Int32)) :=
  wr 8 k_staticType k_count x1 fun g1 =>
  wr 8 k_dynamicType k_count x2 fun g2 =>
  wr 8 k_target k_count x3 fun g3 =>
  rd 16 m_arity x3 fun v4 =>
  wr 8 k_argumentCounts k_count v4 fun g5 =>
  wr 8 k_temporaryCounts k_count 0 fun g6 =>
  lX0_add_55 m_arity m_keys 5000 k_count g1 g2 g3 g5 g6 k_keys k_kinds k_values x3 k_count 0
def lX0_hoist_2 (k_argumentCounts : Nat → Int32) : Nat → (Nat → Int32) → (Nat → Int32) → (Nat → Int32) → (Nat → Int32) → Int32 → Int32 → Int32 → Option ((Nat → Int32) × (Nat → Int32) × (Nat → Int32) × (Nat → Int32))
  | 0, _, _, _, _, _, _, _ => none
  | n + 1, k_temporaryCounts, k_kinds, k_values, k_temporaryKinds, y1, y2, y3 =>
    rd 8 k_argumentCounts y1 fun v1 =>
    if v1 ≤ y3 then (
      some (k_temporaryCounts, k_kinds, k_values, k_temporaryKinds))
    else (
      bn (fX8_contains y2 y3) fun v3 =>
      if v3 = 0 then (
        lX0_hoist_2 k_argumentCounts n k_temporaryCounts k_kinds k_values k_temporaryKinds y1 y2 (y3 + 1))
      else (
        rd 8 k_temporaryCounts y1 fun v5 =>
        bn (fX0_kindOf k_kinds y1 y3) fun v6 =>
        wr 64 k_temporaryKinds ((y1 * 8) + v5) v6 fun g8 =>
        bn2 (fX0_putArgument k_kinds k_values y1 y3 3 v5) fun g9 g10 =>
        rd 8 k_temporaryCounts y1 fun v11 =>
        wr 8 k_temporaryCounts y1 (v11 + 1) fun g12 =>
        lX0_hoist_2 k_argumentCounts n g12 g9 g10 g8 y1 y2 (y3 + 1)))
theorem lX0_hoist_2_s (k_argumentCounts : Nat → Int32) (n : Nat) (k_temporaryCounts : Nat → Int32) (k_kinds : Nat → Int32) (k_values : Nat → Int32) (k_temporaryKinds : Nat → Int32) (y1 : Int32) (y2 : Int32) (y3 : Int32) : lX0_hoist_2 k_argumentCounts (n + 1) k_temporaryCounts k_kinds k_values k_temporaryKinds y1 y2 y3 =
    rd 8 k_argumentCounts y1 fun v1 =>
    if v1 ≤ y3 then (
      some (k_temporaryCounts, k_kinds, k_values, k_temporaryKinds))
    else (
      bn (fX8_contains y2 y3) fun v3 =>
      if v3 = 0 then (
        lX0_hoist_2 k_argumentCounts n k_temporaryCounts k_kinds k_values k_temporaryKinds y1 y2 (y3 + 1))
      else (
        rd 8 k_temporaryCounts y1 fun v5 =>
        bn (fX0_kindOf k_kinds y1 y3) fun v6 =>
        wr 64 k_temporaryKinds ((y1 * 8) + v5) v6 fun g8 =>
        bn2 (fX0_putArgument k_kinds k_values y1 y3 3 v5) fun g9 g10 =>
        rd 8 k_temporaryCounts y1 fun v11 =>
        wr 8 k_temporaryCounts y1 (v11 + 1) fun g12 =>
        lX0_hoist_2 k_argumentCounts n g12 g9 g10 g8 y1 y2 (y3 + 1))) := rfl
def fX0_hoist (k_argumentCounts : Nat → Int32) (k_temporaryCounts : Nat → Int32) (k_kinds : Nat → Int32) (k_values : Nat → Int32) (k_temporaryKinds : Nat → Int32) (x1 : Int32) (x2 : Int32) : Option ((Nat → Int32) × (Nat → Int32) × (Nat → Int32) × (Nat → Int32)) :=
  lX0_hoist_2 k_argumentCounts 5000 k_temporaryCounts k_kinds k_values k_temporaryKinds x1 x2 0
def lX0_rearrange_77 (d_count : Int32) (d_sources : Nat → Int32) (d_keys : Nat → Int32) (d_defaults : Nat → Int32) : Nat → (Nat → Int32) → (Nat → Int32) → (Nat → Int32) → (Nat → Int32) → (Nat → Int32) → (Nat → Int32) → Int32 → Int32 → Option ((Nat → Int32) × (Nat → Int32) × (Nat → Int32) × (Nat → Int32) × (Nat → Int32) × (Nat → Int32))
  | 0, _, _, _, _, _, _, _, _ => none
  | n + 1, k_argumentCounts, k_keys, k_kinds, k_values, k_newKinds, k_newValues, y1, y3 =>
    if d_count ≤ y3 then (
      wr 8 k_argumentCounts y1 d_count fun g2 =>
      some (g2, k_keys, k_kinds, k_values, k_newKinds, k_newValues))
    else (
      rd 5 d_keys y3 fun v3 =>
      wr 40 k_keys ((y1 * 5) + y3) v3 fun g4 =>
      rd 5 k_newKinds y3 fun v5 =>
      rd 5 k_newValues y3 fun v6 =>
      bn2 (fX0_putArgument k_kinds k_values y1 y3 v5 v6) fun g7 g8 =>
      lX0_rearrange_77 d_count d_sources d_keys d_defaults n k_argumentCounts g4 g7 g8 k_newKinds k_newValues y1 (y3 + 1))
theorem lX0_rearrange_77_s (d_count : Int32) (d_sources : Nat → Int32) (d_keys : Nat → Int32) (d_defaults : Nat → Int32) (n : Nat) (k_argumentCounts : Nat → Int32) (k_keys : Nat → Int32) (k_kinds : Nat → Int32) (k_values : Nat → Int32) (k_newKinds : Nat → Int32) (k_newValues : Nat → Int32) (y1 : Int32) (y3 : Int32) : lX0_rearrange_77 d_count d_sources d_keys d_defaults (n + 1) k_argumentCounts k_keys k_kinds k_values k_newKinds k_newValues y1 y3 =
    if d_count ≤ y3 then (
      wr 8 k_argumentCounts y1 d_count fun g2 =>
      some (g2, k_keys, k_kinds, k_values, k_newKinds, k_newValues))
    else (
      rd 5 d_keys y3 fun v3 =>
      wr 40 k_keys ((y1 * 5) + y3) v3 fun g4 =>
      rd 5 k_newKinds y3 fun v5 =>
      rd 5 k_newValues y3 fun v6 =>
      bn2 (fX0_putArgument k_kinds k_values y1 y3 v5 v6) fun g7 g8 =>
      lX0_rearrange_77 d_count d_sources d_keys d_defaults n k_argumentCounts g4 g7 g8 k_newKinds k_newValues y1 (y3 + 1)) := rfl
def jX0_rearrange_68 (d_count : Int32) (d_sources : Nat → Int32) (d_keys : Nat → Int32) (d_defaults : Nat → Int32) (k2 : (Nat → Int32) → (Nat → Int32) → (Nat → Int32) → (Nat → Int32) → (Nat → Int32) → (Nat → Int32) → Int32 → Int32 → Option ((Nat → Int32) × (Nat → Int32) × (Nat → Int32) × (Nat → Int32) × (Nat → Int32) × (Nat → Int32))) (k_argumentCounts : Nat → Int32) (k_keys : Nat → Int32) (k_kinds : Nat → Int32) (k_values : Nat → Int32) (k_newKinds : Nat → Int32) (k_newValues : Nat → Int32) (y1 : Int32) (y3 : Int32) (s1 : Int32) (s2 : Int32) : Option ((Nat → Int32) × (Nat → Int32) × (Nat → Int32) × (Nat → Int32) × (Nat → Int32) × (Nat → Int32)) :=
  wr 5 k_newValues s1 s2 fun g1 =>
  k2 k_argumentCounts k_keys k_kinds k_values k_newKinds g1 y1 (y3 + 1)
def jX0_rearrange_40 (d_count : Int32) (d_sources : Nat → Int32) (d_keys : Nat → Int32) (d_defaults : Nat → Int32) (k2 : (Nat → Int32) → (Nat → Int32) → (Nat → Int32) → (Nat → Int32) → (Nat → Int32) → (Nat → Int32) → Int32 → Int32 → Option ((Nat → Int32) × (Nat → Int32) × (Nat → Int32) × (Nat → Int32) × (Nat → Int32) × (Nat → Int32))) (k_argumentCounts : Nat → Int32) (k_keys : Nat → Int32) (k_kinds : Nat → Int32) (k_values : Nat → Int32) (k_newKinds : Nat → Int32) (k_newValues : Nat → Int32) (y1 : Int32) (y3 : Int32) (y4 : Int32) (s1 : Int32) (s2 : Int32) : Option ((Nat → Int32) × (Nat → Int32) × (Nat → Int32) × (Nat → Int32) × (Nat → Int32) × (Nat → Int32)) :=
  wr 5 k_newKinds s1 s2 fun g1 =>
  if y4 = (-1) then (
    rd 5 d_defaults y3 fun v5 =>
    jX0_rearrange_68 d_count d_sources d_keys d_defaults k2 k_argumentCounts k_keys k_kinds k_values g1 k_newValues y1 y3 y3 v5)
  else (
    bn (fX0_valueOf k_values y1 y4) fun v3 =>
    jX0_rearrange_68 d_count d_sources d_keys d_defaults k2 k_argumentCounts k_keys k_kinds k_values g1 k_newValues y1 y3 y3 v3)
def lX0_rearrange_2 (d_count : Int32) (d_sources : Nat → Int32) (d_keys : Nat → Int32) (d_defaults : Nat → Int32) : Nat → (Nat → Int32) → (Nat → Int32) → (Nat → Int32) → (Nat → Int32) → (Nat → Int32) → (Nat → Int32) → Int32 → Int32 → Option ((Nat → Int32) × (Nat → Int32) × (Nat → Int32) × (Nat → Int32) × (Nat → Int32) × (Nat → Int32))
  | 0, _, _, _, _, _, _, _, _ => none
  | n + 1, k_argumentCounts, k_keys, k_kinds, k_values, k_newKinds, k_newValues, y1, y3 =>
    if d_count ≤ y3 then (
      lX0_rearrange_77 d_count d_sources d_keys d_defaults 5000 k_argumentCounts k_keys k_kinds k_values k_newKinds k_newValues y1 0)
    else (
      rd 5 d_sources y3 fun v2 =>
      if v2 = (-1) then (
        jX0_rearrange_40 d_count d_sources d_keys d_defaults (fun w_k_argumentCounts w_k_keys w_k_kinds w_k_values w_k_newKinds w_k_newValues u1 u3 => lX0_rearrange_2 d_count d_sources d_keys d_defaults n w_k_argumentCounts w_k_keys w_k_kinds w_k_values w_k_newKinds w_k_newValues u1 u3) k_argumentCounts k_keys k_kinds k_values k_newKinds k_newValues y1 y3 v2 y3 0)
      else (
        bn (fX0_kindOf k_kinds y1 v2) fun v4 =>
        jX0_rearrange_40 d_count d_sources d_keys d_defaults (fun w_k_argumentCounts w_k_keys w_k_kinds w_k_values w_k_newKinds w_k_newValues u1 u3 => lX0_rearrange_2 d_count d_sources d_keys d_defaults n w_k_argumentCounts w_k_keys w_k_kinds w_k_values w_k_newKinds w_k_newValues u1 u3) k_argumentCounts k_keys k_kinds k_values k_newKinds k_newValues y1 y3 v2 y3 v4))
theorem lX0_rearrange_2_s (d_count : Int32) (d_sources : Nat → Int32) (d_keys : Nat → Int32) (d_defaults : Nat → Int32) (n : Nat) (k_argumentCounts : Nat → Int32) (k_keys : Nat → Int32) (k_kinds : Nat → Int32) (k_values : Nat → Int32) (k_newKinds : Nat → Int32) (k_newValues : Nat → Int32) (y1 : Int32) (y3 : Int32) : lX0_rearrange_2 d_count d_sources d_keys d_defaults (n + 1) k_argumentCounts k_keys k_kinds k_values k_newKinds k_newValues y1 y3 =
    if d_count ≤ y3 then (
      lX0_rearrange_77 d_count d_sources d_keys d_defaults 5000 k_argumentCounts k_keys k_kinds k_values k_newKinds k_newValues y1 0)
    else (
      rd 5 d_sources y3 fun v2 =>
      if v2 = (-1) then (
        jX0_rearrange_40 d_count d_sources d_keys d_defaults (fun w_k_argumentCounts w_k_keys w_k_kinds w_k_values w_k_newKinds w_k_newValues u1 u3 => lX0_rearrange_2 d_count d_sources d_keys d_defaults n w_k_argumentCounts w_k_keys w_k_kinds w_k_values w_k_newKinds w_k_newValues u1 u3) k_argumentCounts k_keys k_kinds k_values k_newKinds k_newValues y1 y3 v2 y3 0)
      else (
        bn (fX0_kindOf k_kinds y1 v2) fun v4 =>
        jX0_rearrange_40 d_count d_sources d_keys d_defaults (fun w_k_argumentCounts w_k_keys w_k_kinds w_k_values w_k_newKinds w_k_newValues u1 u3 => lX0_rearrange_2 d_count d_sources d_keys d_defaults n w_k_argumentCounts w_k_keys w_k_kinds w_k_values w_k_newKinds w_k_newValues u1 u3) k_argumentCounts k_keys k_kinds k_values k_newKinds k_newValues y1 y3 v2 y3 v4)) := rfl
def fX0_rearrange (k_argumentCounts : Nat → Int32) (k_keys : Nat → Int32) (k_kinds : Nat → Int32) (k_values : Nat → Int32) (k_newKinds : Nat → Int32) (k_newValues : Nat → Int32) (d_count : Int32) (d_sources : Nat → Int32) (d_keys : Nat → Int32) (d_defaults : Nat → Int32) (x1 : Int32) : Option ((Nat → Int32) × (Nat → Int32) × (Nat → Int32) × (Nat → Int32) × (Nat → Int32) × (Nat → Int32)) :=
  lX0_rearrange_2 d_count d_sources d_keys d_defaults 5000 k_argumentCounts k_keys k_kinds k_values k_newKinds k_newValues x1 0
def lX0_rewrite_3 (k_count : Int32) (q1_c : Nat → Int32) (d_count : Int32) (d_sources : Nat → Int32) (d_keys : Nat → Int32) (d_defaults : Nat → Int32) : Nat → (Nat → Int32) → (Nat → Int32) → (Nat → Int32) → (Nat → Int32) → (Nat → Int32) → (Nat → Int32) → (Nat → Int32) → (Nat → Int32) → Int32 → Int32 → Option ((Nat → Int32) × (Nat → Int32) × (Nat → Int32) × (Nat → Int32) × (Nat → Int32) × (Nat → Int32) × (Nat → Int32) × (Nat → Int32))
  | 0, _, _, _, _, _, _, _, _, _, _ => none
  | n + 1, k_argumentCounts, k_temporaryCounts, k_keys, k_kinds, k_values, k_temporaryKinds, k_newKinds, k_newValues, y1, y4 =>
    if k_count ≤ y4 then (
      some (k_argumentCounts, k_temporaryCounts, k_keys, k_kinds, k_values, k_temporaryKinds, k_newKinds, k_newValues))
    else (
      bn (fX8_contains y1 y4) fun v2 =>
      if v2 = 0 then (
        lX0_rewrite_3 k_count q1_c d_count d_sources d_keys d_defaults n k_argumentCounts k_temporaryCounts k_keys k_kinds k_values k_temporaryKinds k_newKinds k_newValues y1 (y4 + 1))
      else (
        rd 8 q1_c y4 fun v4 =>
        bn4 (fX0_hoist k_argumentCounts k_temporaryCounts k_kinds k_values k_temporaryKinds y4 v4) fun g5 g6 g7 g8 =>
        bn6 (fX0_rearrange k_argumentCounts k_keys g6 g7 k_newKinds k_newValues d_count d_sources d_keys d_defaults y4) fun g9 g10 g11 g12 g13 g14 =>
        lX0_rewrite_3 k_count q1_c d_count d_sources d_keys d_defaults n g9 g5 g10 g11 g12 g8 g13 g14 y1 (y4 + 1)))
theorem lX0_rewrite_3_s (k_count : Int32) (q1_c : Nat → Int32) (d_count : Int32) (d_sources : Nat → Int32) (d_keys : Nat → Int32) (d_defaults : Nat → Int32) (n : Nat) (k_argumentCounts : Nat → Int32) (k_temporaryCounts : Nat → Int32) (k_keys : Nat → Int32) (k_kinds : Nat → Int32) (k_values : Nat → Int32) (k_temporaryKinds : Nat → Int32) (k_newKinds : Nat → Int32) (k_newValues : Nat → Int32) (y1 : Int32) (y4 : Int32) : lX0_rewrite_3 k_count q1_c d_count d_sources d_keys d_defaults (n + 1) k_argumentCounts k_temporaryCounts k_keys k_kinds k_values k_temporaryKinds k_newKinds k_newValues y1 y4 =
    if k_count ≤ y4 then (
      some (k_argumentCounts, k_temporaryCounts, k_keys, k_kinds, k_values, k_temporaryKinds, k_newKinds, k_newValues))
    else (
      bn (fX8_contains y1 y4) fun v2 =>
      if v2 = 0 then (
        lX0_rewrite_3 k_count q1_c d_count d_sources d_keys d_defaults n k_argumentCounts k_temporaryCounts k_keys k_kinds k_values k_temporaryKinds k_newKinds k_newValues y1 (y4 + 1))
      else (
        rd 8 q1_c y4 fun v4 =>
        bn4 (fX0_hoist k_argumentCounts k_temporaryCounts k_kinds k_values k_temporaryKinds y4 v4) fun g5 g6 g7 g8 =>
        bn6 (fX0_rearrange k_argumentCounts k_keys g6 g7 k_newKinds k_newValues d_count d_sources d_keys d_defaults y4) fun g9 g10 g11 g12 g13 g14 =>
        lX0_rewrite_3 k_count q1_c d_count d_sources d_keys d_defaults n g9 g5 g10 g11 g12 g8 g13 g14 y1 (y4 + 1))) := rfl
def fX0_rewrite (k_count : Int32) (k_argumentCounts : Nat → Int32) (k_temporaryCounts : Nat → Int32) (k_keys : Nat → Int32) (k_kinds : Nat → Int32) (k_values : Nat → Int32) (k_temporaryKinds : Nat → Int32) (k_newKinds : Nat → Int32) (k_newValues : Nat → Int32) (q1_c : Nat → Int32) (d_count : Int32) (d_sources : Nat → Int32) (d_keys : Nat → Int32) (d_defaults : Nat → Int32) (x1 : Int32) : Option ((Nat → Int32) × (Nat → Int32) × (Nat → Int32) × (Nat → Int32) × (Nat → Int32) × (Nat → Int32) × (Nat → Int32) × (Nat → Int32)) :=
  lX0_rewrite_3 k_count q1_c d_count d_sources d_keys d_defaults 5000 k_argumentCounts k_temporaryCounts k_keys k_kinds k_values k_temporaryKinds k_newKinds k_newValues x1 0
def fX0_copyFrom (k_count : Int32) (k_frozenSet : Int32) (k_staticType : Nat → Int32) (k_dynamicType : Nat → Int32) (k_target : Nat → Int32) (k_argumentCounts : Nat → Int32) (k_temporaryCounts : Nat → Int32) (k_keys : Nat → Int32) (k_kinds : Nat → Int32) (k_values : Nat → Int32) (k_temporaryKinds : Nat → Int32) (k2_count : Int32) (k2_frozenSet : Int32) (k2_staticType : Nat → Int32) (k2_dynamicType : Nat → Int32) (k2_target : Nat → Int32) (k2_argumentCounts : Nat → Int32) (k2_temporaryCounts : Nat → Int32) (k2_keys : Nat → Int32) (k2_kinds : Nat → Int32) (k2_values : Nat → Int32) (k2_temporaryKinds : Nat → Int32) : Option (Int32 × Int32 × (Nat → Int32) × (Nat → Int32) × (Nat → Int32) × (Nat → Int32) × (Nat → Int32) × (Nat → Int32) × (Nat → Int32) × (Nat → Int32) × (Nat → Int32)) :=
  some (k2_count, k2_frozenSet, k2_staticType, k2_dynamicType, k2_target, k2_argumentCounts, k2_temporaryCounts, k2_keys, k2_kinds, k2_values, k2_temporaryKinds)
def lX5_keySetOf_4 (m_arity : Nat → Int32) (m_keys : Nat → Int32) : Nat → Int32 → Int32 → Int32 → Option (Int32)
  | 0, _, _, _ => none
  | n + 1, y1, y2, y3 =>
    rd 16 m_arity y1 fun v1 =>
    if v1 ≤ y3 then (
      some y2)
    else (
      bn (fX5_keyOf m_keys y1 y3) fun v3 =>
      bn (fX8_bit v3) fun v5 =>
      lX5_keySetOf_4 m_arity m_keys n y1 (y2 ||| v5) (y3 + 1))
theorem lX5_keySetOf_4_s (m_arity : Nat → Int32) (m_keys : Nat → Int32) (n : Nat) (y1 : Int32) (y2 : Int32) (y3 : Int32) : lX5_keySetOf_4 m_arity m_keys (n + 1) y1 y2 y3 =
    rd 16 m_arity y1 fun v1 =>
    if v1 ≤ y3 then (
      some y2)
    else (
      bn (fX5_keyOf m_keys y1 y3) fun v3 =>
      bn (fX8_bit v3) fun v5 =>
      lX5_keySetOf_4 m_arity m_keys n y1 (y2 ||| v5) (y3 + 1)) := rfl
def fX5_keySetOf (m_arity : Nat → Int32) (m_keys : Nat → Int32) (x1 : Int32) : Option (Int32) :=
  lX5_keySetOf_4 m_arity m_keys 5000 x1 0 0
def fX1_start (d_open : Int32) (d_method : Int32) (d_family : Int32) (d_oldCount : Int32) (d_keptSet : Int32) (d_count : Int32) (d_usedKeys : Int32) (m_arity : Nat → Int32) (m_keys : Nat → Int32) (x2 : Int32) (x3 : Int32) : Option (Int32 × Int32 × Int32 × Int32 × Int32 × Int32 × Int32) :=
  rd 16 m_arity x2 fun v1 =>
  bn (fX5_keySetOf m_arity m_keys x2) fun v2 =>
  some (1, x2, x3, v1, 0, 0, v2)
def fX1_close (d_open : Int32) : Option (Int32) :=
  some 0
def fX5_defaultOf (m_defaults : Nat → Int32) (x1 : Int32) (x2 : Int32) : Option (Int32) :=
  rd 80 m_defaults ((x1 * 5) + x2) fun v1 =>
  some v1
def fX1_append (d_count : Int32) (d_sources : Nat → Int32) (d_keys : Nat → Int32) (d_defaults : Nat → Int32) (x1 : Int32) (x2 : Int32) (x3 : Int32) : Option (Int32 × (Nat → Int32) × (Nat → Int32) × (Nat → Int32)) :=
  wr 5 d_sources d_count x1 fun g1 =>
  wr 5 d_keys d_count x2 fun g2 =>
  wr 5 d_defaults d_count x3 fun g3 =>
  some (d_count + 1, g1, g2, g3)
def fX1_keep (d_method : Int32) (d_keptSet : Int32) (d_count : Int32) (d_sources : Nat → Int32) (d_keys : Nat → Int32) (d_defaults : Nat → Int32) (m_keys : Nat → Int32) (m_defaults : Nat → Int32) (x2 : Int32) : Option (Int32 × Int32 × Int32 × (Nat → Int32) × (Nat → Int32) × (Nat → Int32)) :=
  bn (fX8_bit x2) fun v1 =>
  bn (fX5_keyOf m_keys d_method x2) fun v2 =>
  bn (fX5_defaultOf m_defaults d_method x2) fun v4 =>
  bn4 (fX1_append d_count d_sources d_keys d_defaults x2 v2 v4) fun g5 g6 g7 g8 =>
  some (g5, d_keptSet ||| v1, g5, g6, g7, g8)
def lX1_freeKey_2 (d_usedKeys : Int32) : Nat → Int32 → Option (Int32)
  | 0, _ => none
  | n + 1, y1 =>
    if 10 ≤ y1 then (
      some y1)
    else (
      bn (fX8_contains d_usedKeys y1) fun v2 =>
      if v2 = 0 then (
        some y1)
      else (
        lX1_freeKey_2 d_usedKeys n (y1 + 1)))
theorem lX1_freeKey_2_s (d_usedKeys : Int32) (n : Nat) (y1 : Int32) : lX1_freeKey_2 d_usedKeys (n + 1) y1 =
    if 10 ≤ y1 then (
      some y1)
    else (
      bn (fX8_contains d_usedKeys y1) fun v2 =>
      if v2 = 0 then (
        some y1)
      else (
        lX1_freeKey_2 d_usedKeys n (y1 + 1))) := rfl
def fX1_freeKey (d_usedKeys : Int32) : Option (Int32) :=
  lX1_freeKey_2 d_usedKeys 5000 0
def fX1_insert (d_count : Int32) (d_sources : Nat → Int32) (d_keys : Nat → Int32) (d_defaults : Nat → Int32) (d_usedKeys : Int32) (x1 : Int32) : Option (Int32 × Int32 × (Nat → Int32) × (Nat → Int32) × (Nat → Int32) × Int32) :=
  bn (fX1_freeKey d_usedKeys) fun v1 =>
  bn (fX8_bit v1) fun v3 =>
  bn4 (fX1_append d_count d_sources d_keys d_defaults (-1) v1 x1) fun g4 g5 g6 g7 =>
  some (v1, g4, g5, g6, g7, d_usedKeys ||| v3)
def lX1_keepsWholeList_2 (d_oldCount : Int32) (d_count : Int32) (d_sources : Nat → Int32) : Nat → Int32 → Option (Int32)
  | 0, _ => none
  | n + 1, y1 =>
    if d_count ≤ y1 then (
      if d_count = d_oldCount then (
        some 1)
      else (
        some 0))
    else (
      rd 5 d_sources y1 fun v3 =>
      if v3 = y1 then (
        lX1_keepsWholeList_2 d_oldCount d_count d_sources n (y1 + 1))
      else (
        some 0))
theorem lX1_keepsWholeList_2_s (d_oldCount : Int32) (d_count : Int32) (d_sources : Nat → Int32) (n : Nat) (y1 : Int32) : lX1_keepsWholeList_2 d_oldCount d_count d_sources (n + 1) y1 =
    if d_count ≤ y1 then (
      if d_count = d_oldCount then (
        some 1)
      else (
        some 0))
    else (
      rd 5 d_sources y1 fun v3 =>
      if v3 = y1 then (
        lX1_keepsWholeList_2 d_oldCount d_count d_sources n (y1 + 1))
      else (
        some 0)) := rfl
def fX1_keepsWholeList (d_oldCount : Int32) (d_count : Int32) (d_sources : Nat → Int32) : Option (Int32) :=
  lX1_keepsWholeList_2 d_oldCount d_count d_sources 5000 0
def fX2_readOrTick (e_counter : Int32) (x1 : Int32) : Option (Int32 × Int32) :=
  if x1 = 2 then (
    some (e_counter, e_counter + 1))
  else (
    some (e_counter, e_counter))
def fX2_valueOf (e_counter : Int32) (e_temporaries : Nat → Int32) (x1 : Int32) (x2 : Int32) : Option (Int32 × Int32) :=
  if x1 = 0 then (
    some (x2, e_counter))
  else (
    if x1 = 3 then (
      rd 8 e_temporaries x2 fun v5 =>
      some (v5, e_counter))
    else (
      bn2 (fX2_readOrTick e_counter x1) fun v3 g4 =>
      some (v3, g4)))
def lX2_evaluate_41 (k_argumentCounts : Nat → Int32) (k_temporaryCounts : Nat → Int32) (k_kinds : Nat → Int32) (k_values : Nat → Int32) (k_temporaryKinds : Nat → Int32) : Nat → (Int32) → (Nat → Int32) → (Nat → Int32) → Int32 → Int32 → Option (Int32 × (Nat → Int32) × (Nat → Int32))
  | 0, _, _, _, _, _ => none
  | n + 1, e_counter, e_temporaries, e_arguments, y2, y3 =>
    rd 8 k_argumentCounts y2 fun v1 =>
    if v1 ≤ y3 then (
      some (e_counter, e_temporaries, e_arguments))
    else (
      bn (fX0_kindOf k_kinds y2 y3) fun v3 =>
      bn (fX0_valueOf k_values y2 y3) fun v5 =>
      bn2 (fX2_valueOf e_counter e_temporaries v3 v5) fun v6 g7 =>
      wr 5 e_arguments y3 v6 fun g8 =>
      lX2_evaluate_41 k_argumentCounts k_temporaryCounts k_kinds k_values k_temporaryKinds n g7 e_temporaries g8 y2 (y3 + 1))
theorem lX2_evaluate_41_s (k_argumentCounts : Nat → Int32) (k_temporaryCounts : Nat → Int32) (k_kinds : Nat → Int32) (k_values : Nat → Int32) (k_temporaryKinds : Nat → Int32) (n : Nat) (e_counter : Int32) (e_temporaries : Nat → Int32) (e_arguments : Nat → Int32) (y2 : Int32) (y3 : Int32) : lX2_evaluate_41 k_argumentCounts k_temporaryCounts k_kinds k_values k_temporaryKinds (n + 1) e_counter e_temporaries e_arguments y2 y3 =
    rd 8 k_argumentCounts y2 fun v1 =>
    if v1 ≤ y3 then (
      some (e_counter, e_temporaries, e_arguments))
    else (
      bn (fX0_kindOf k_kinds y2 y3) fun v3 =>
      bn (fX0_valueOf k_values y2 y3) fun v5 =>
      bn2 (fX2_valueOf e_counter e_temporaries v3 v5) fun v6 g7 =>
      wr 5 e_arguments y3 v6 fun g8 =>
      lX2_evaluate_41 k_argumentCounts k_temporaryCounts k_kinds k_values k_temporaryKinds n g7 e_temporaries g8 y2 (y3 + 1)) := rfl
def lX2_evaluate_7 (k_argumentCounts : Nat → Int32) (k_temporaryCounts : Nat → Int32) (k_kinds : Nat → Int32) (k_values : Nat → Int32) (k_temporaryKinds : Nat → Int32) : Nat → (Int32) → (Nat → Int32) → (Nat → Int32) → Int32 → Int32 → Option (Int32 × (Nat → Int32) × (Nat → Int32))
  | 0, _, _, _, _, _ => none
  | n + 1, e_counter, e_temporaries, e_arguments, y2, y3 =>
    rd 8 k_temporaryCounts y2 fun v1 =>
    if v1 ≤ y3 then (
      lX2_evaluate_41 k_argumentCounts k_temporaryCounts k_kinds k_values k_temporaryKinds 5000 e_counter e_temporaries e_arguments y2 0)
    else (
      bn (fX0_temporaryKindOf k_temporaryKinds y2 y3) fun v3 =>
      bn2 (fX2_readOrTick e_counter v3) fun v5 g6 =>
      wr 8 e_temporaries y3 v5 fun g7 =>
      lX2_evaluate_7 k_argumentCounts k_temporaryCounts k_kinds k_values k_temporaryKinds n g6 g7 e_arguments y2 (y3 + 1))
theorem lX2_evaluate_7_s (k_argumentCounts : Nat → Int32) (k_temporaryCounts : Nat → Int32) (k_kinds : Nat → Int32) (k_values : Nat → Int32) (k_temporaryKinds : Nat → Int32) (n : Nat) (e_counter : Int32) (e_temporaries : Nat → Int32) (e_arguments : Nat → Int32) (y2 : Int32) (y3 : Int32) : lX2_evaluate_7 k_argumentCounts k_temporaryCounts k_kinds k_values k_temporaryKinds (n + 1) e_counter e_temporaries e_arguments y2 y3 =
    rd 8 k_temporaryCounts y2 fun v1 =>
    if v1 ≤ y3 then (
      lX2_evaluate_41 k_argumentCounts k_temporaryCounts k_kinds k_values k_temporaryKinds 5000 e_counter e_temporaries e_arguments y2 0)
    else (
      bn (fX0_temporaryKindOf k_temporaryKinds y2 y3) fun v3 =>
      bn2 (fX2_readOrTick e_counter v3) fun v5 g6 =>
      wr 8 e_temporaries y3 v5 fun g7 =>
      lX2_evaluate_7 k_argumentCounts k_temporaryCounts k_kinds k_values k_temporaryKinds n g6 g7 e_arguments y2 (y3 + 1)) := rfl
def fX2_evaluate (e_counter : Int32) (e_temporaries : Nat → Int32) (e_arguments : Nat → Int32) (k_argumentCounts : Nat → Int32) (k_temporaryCounts : Nat → Int32) (k_kinds : Nat → Int32) (k_values : Nat → Int32) (k_temporaryKinds : Nat → Int32) (x2 : Int32) : Option (Int32 × (Nat → Int32) × (Nat → Int32)) :=
  lX2_evaluate_7 k_argumentCounts k_temporaryCounts k_kinds k_values k_temporaryKinds 5000 0 e_temporaries e_arguments x2 0
def lX2_received_3 (e_arguments : Nat → Int32) (k_argumentCounts : Nat → Int32) (k_keys : Nat → Int32) : Nat → Int32 → Int32 → Int32 → Int32 → Option (Int32)
  | 0, _, _, _, _ => none
  | n + 1, y2, y3, y4, y5 =>
    rd 8 k_argumentCounts y2 fun v1 =>
    if v1 ≤ y5 then (
      some y4)
    else (
      bn (fX0_keyOf k_keys y2 y5) fun v3 =>
      if v3 = y3 then (
        rd 5 e_arguments y5 fun v6 =>
        some v6)
      else (
        lX2_received_3 e_arguments k_argumentCounts k_keys n y2 y3 y4 (y5 + 1)))
theorem lX2_received_3_s (e_arguments : Nat → Int32) (k_argumentCounts : Nat → Int32) (k_keys : Nat → Int32) (n : Nat) (y2 : Int32) (y3 : Int32) (y4 : Int32) (y5 : Int32) : lX2_received_3 e_arguments k_argumentCounts k_keys (n + 1) y2 y3 y4 y5 =
    rd 8 k_argumentCounts y2 fun v1 =>
    if v1 ≤ y5 then (
      some y4)
    else (
      bn (fX0_keyOf k_keys y2 y5) fun v3 =>
      if v3 = y3 then (
        rd 5 e_arguments y5 fun v6 =>
        some v6)
      else (
        lX2_received_3 e_arguments k_argumentCounts k_keys n y2 y3 y4 (y5 + 1))) := rfl
def fX2_received (e_arguments : Nat → Int32) (k_argumentCounts : Nat → Int32) (k_keys : Nat → Int32) (x2 : Int32) (x3 : Int32) (x4 : Int32) : Option (Int32) :=
  lX2_received_3 e_arguments k_argumentCounts k_keys 5000 x2 x3 x4 0
def lX2_resultOf_15 (e_arguments : Nat → Int32) (m_type : Nat → Int32) (m_arity : Nat → Int32) (m_keys : Nat → Int32) (m_defaults : Nat → Int32) (k_argumentCounts : Nat → Int32) (k_keys : Nat → Int32) : Nat → Int32 → Int32 → Int32 → Int32 → Option (Int32)
  | 0, _, _, _, _ => none
  | n + 1, y2, y4, y5, y6 =>
    rd 16 m_arity y2 fun v1 =>
    if v1 ≤ y6 then (
      some y5)
    else (
      bn (fX5_keyOf m_keys y2 y6) fun v3 =>
      bn (fX5_defaultOf m_defaults y2 y6) fun v5 =>
      bn (fX2_received e_arguments k_argumentCounts k_keys y4 v3 v5) fun v6 =>
      lX2_resultOf_15 e_arguments m_type m_arity m_keys m_defaults k_argumentCounts k_keys n y2 y4 (y5 + ((v3 + 1) * v6)) (y6 + 1))
theorem lX2_resultOf_15_s (e_arguments : Nat → Int32) (m_type : Nat → Int32) (m_arity : Nat → Int32) (m_keys : Nat → Int32) (m_defaults : Nat → Int32) (k_argumentCounts : Nat → Int32) (k_keys : Nat → Int32) (n : Nat) (y2 : Int32) (y4 : Int32) (y5 : Int32) (y6 : Int32) : lX2_resultOf_15 e_arguments m_type m_arity m_keys m_defaults k_argumentCounts k_keys (n + 1) y2 y4 y5 y6 =
    rd 16 m_arity y2 fun v1 =>
    if v1 ≤ y6 then (
      some y5)
    else (
      bn (fX5_keyOf m_keys y2 y6) fun v3 =>
      bn (fX5_defaultOf m_defaults y2 y6) fun v5 =>
      bn (fX2_received e_arguments k_argumentCounts k_keys y4 v3 v5) fun v6 =>
      lX2_resultOf_15 e_arguments m_type m_arity m_keys m_defaults k_argumentCounts k_keys n y2 y4 (y5 + ((v3 + 1) * v6)) (y6 + 1)) := rfl
def fX2_resultOf (e_arguments : Nat → Int32) (m_type : Nat → Int32) (m_arity : Nat → Int32) (m_keys : Nat → Int32) (m_defaults : Nat → Int32) (k_argumentCounts : Nat → Int32) (k_keys : Nat → Int32) (x2 : Int32) (x4 : Int32) : Option (Int32) :=
  rd 16 m_type x2 fun v1 =>
  lX2_resultOf_15 e_arguments m_type m_arity m_keys m_defaults k_argumentCounts k_keys 5000 x2 x4 (1000 * v1) 0
def fX7_copyFrom (t_count : Int32) (t_interfaceSet : Int32) (t_supertypes : Nat → Int32) (t2_count : Int32) (t2_interfaceSet : Int32) (t2_supertypes : Nat → Int32) : Option (Int32 × Int32 × (Nat → Int32)) :=
  some (t2_count, t2_interfaceSet, t2_supertypes)
def fX5_copyFrom (m_count : Int32) (m_type : Nat → Int32) (m_name : Nat → Int32) (m_arity : Nat → Int32) (m_keys : Nat → Int32) (m_defaults : Nat → Int32) (m2_count : Int32) (m2_type : Nat → Int32) (m2_name : Nat → Int32) (m2_arity : Nat → Int32) (m2_keys : Nat → Int32) (m2_defaults : Nat → Int32) : Option (Int32 × (Nat → Int32) × (Nat → Int32) × (Nat → Int32) × (Nat → Int32) × (Nat → Int32)) :=
  some (m2_count, m2_type, m2_name, m2_arity, m2_keys, m2_defaults)
def fX6_copyFrom (t_count : Int32) (t_interfaceSet : Int32) (t_supertypes : Nat → Int32) (m_count : Int32) (m_type : Nat → Int32) (m_name : Nat → Int32) (m_arity : Nat → Int32) (m_keys : Nat → Int32) (m_defaults : Nat → Int32) (k_count : Int32) (k_frozenSet : Int32) (k_staticType : Nat → Int32) (k_dynamicType : Nat → Int32) (k_target : Nat → Int32) (k_argumentCounts : Nat → Int32) (k_temporaryCounts : Nat → Int32) (k_keys : Nat → Int32) (k_kinds : Nat → Int32) (k_values : Nat → Int32) (k_temporaryKinds : Nat → Int32) (t2_count : Int32) (t2_interfaceSet : Int32) (t2_supertypes : Nat → Int32) (m2_count : Int32) (m2_type : Nat → Int32) (m2_name : Nat → Int32) (m2_arity : Nat → Int32) (m2_keys : Nat → Int32) (m2_defaults : Nat → Int32) (k2_count : Int32) (k2_frozenSet : Int32) (k2_staticType : Nat → Int32) (k2_dynamicType : Nat → Int32) (k2_target : Nat → Int32) (k2_argumentCounts : Nat → Int32) (k2_temporaryCounts : Nat → Int32) (k2_keys : Nat → Int32) (k2_kinds : Nat → Int32) (k2_values : Nat → Int32) (k2_temporaryKinds : Nat → Int32) : Option (Int32 × Int32 × (Nat → Int32) × Int32 × (Nat → Int32) × (Nat → Int32) × (Nat → Int32) × (Nat → Int32) × (Nat → Int32) × Int32 × Int32 × (Nat → Int32) × (Nat → Int32) × (Nat → Int32) × (Nat → Int32) × (Nat → Int32) × (Nat → Int32) × (Nat → Int32) × (Nat → Int32) × (Nat → Int32)) :=
  bn3 (fX7_copyFrom t_count t_interfaceSet t_supertypes t2_count t2_interfaceSet t2_supertypes) fun g1 g2 g3 =>
  bn6 (fX5_copyFrom m_count m_type m_name m_arity m_keys m_defaults m2_count m2_type m2_name m2_arity m2_keys m2_defaults) fun g4 g5 g6 g7 g8 g9 =>
  bn11 (fX0_copyFrom k_count k_frozenSet k_staticType k_dynamicType k_target k_argumentCounts k_temporaryCounts k_keys k_kinds k_values k_temporaryKinds k2_count k2_frozenSet k2_staticType k2_dynamicType k2_target k2_argumentCounts k2_temporaryCounts k2_keys k2_kinds k2_values k2_temporaryKinds) fun g10 g11 g12 g13 g14 g15 g16 g17 g18 g19 g20 =>
  some (g1, g2, g3, g4, g5, g6, g7, g8, g9, g10, g11, g12, g13, g14, g15, g16, g17, g18, g19, g20)
def lX4_look_53 (k_argumentCounts : Nat → Int32) (k_kinds : Nat → Int32) (d_keptSet : Int32) (d_count : Int32) (d_sources : Nat → Int32) : Nat → (Int32) → (Int32) → (Nat → Int32) → (Nat → Int32) → Int32 → Option (Int32 × Int32 × (Nat → Int32) × (Nat → Int32))
  | 0, _, _, _, _, _ => none
  | n + 1, g_count, g_kept, g_kinds, g_positions, y4 =>
    if d_count ≤ y4 then (
      some (g_count, g_kept, g_kinds, g_positions))
    else (
      rd 5 d_sources y4 fun v2 =>
      if v2 = (-1) then (
        lX4_look_53 k_argumentCounts k_kinds d_keptSet d_count d_sources n g_count g_kept g_kinds g_positions (y4 + 1))
      else (
        rd 5 d_sources y4 fun v4 =>
        wr 5 g_positions v4 y4 fun g5 =>
        lX4_look_53 k_argumentCounts k_kinds d_keptSet d_count d_sources n g_count g_kept g_kinds g5 (y4 + 1)))
theorem lX4_look_53_s (k_argumentCounts : Nat → Int32) (k_kinds : Nat → Int32) (d_keptSet : Int32) (d_count : Int32) (d_sources : Nat → Int32) (n : Nat) (g_count : Int32) (g_kept : Int32) (g_kinds : Nat → Int32) (g_positions : Nat → Int32) (y4 : Int32) : lX4_look_53 k_argumentCounts k_kinds d_keptSet d_count d_sources (n + 1) g_count g_kept g_kinds g_positions y4 =
    if d_count ≤ y4 then (
      some (g_count, g_kept, g_kinds, g_positions))
    else (
      rd 5 d_sources y4 fun v2 =>
      if v2 = (-1) then (
        lX4_look_53 k_argumentCounts k_kinds d_keptSet d_count d_sources n g_count g_kept g_kinds g_positions (y4 + 1))
      else (
        rd 5 d_sources y4 fun v4 =>
        wr 5 g_positions v4 y4 fun g5 =>
        lX4_look_53 k_argumentCounts k_kinds d_keptSet d_count d_sources n g_count g_kept g_kinds g5 (y4 + 1))) := rfl
def lX4_look_21 (k_argumentCounts : Nat → Int32) (k_kinds : Nat → Int32) (d_keptSet : Int32) (d_count : Int32) (d_sources : Nat → Int32) : Nat → (Int32) → (Int32) → (Nat → Int32) → (Nat → Int32) → Int32 → Int32 → Option (Int32 × Int32 × (Nat → Int32) × (Nat → Int32))
  | 0, _, _, _, _, _, _ => none
  | n + 1, g_count, g_kept, g_kinds, g_positions, y2, y4 =>
    if g_count ≤ y4 then (
      lX4_look_53 k_argumentCounts k_kinds d_keptSet d_count d_sources 5000 g_count g_kept g_kinds g_positions 0)
    else (
      bn (fX0_kindOf k_kinds y2 y4) fun v2 =>
      wr 5 g_kinds y4 v2 fun g4 =>
      lX4_look_21 k_argumentCounts k_kinds d_keptSet d_count d_sources n g_count g_kept g4 g_positions y2 (y4 + 1))
theorem lX4_look_21_s (k_argumentCounts : Nat → Int32) (k_kinds : Nat → Int32) (d_keptSet : Int32) (d_count : Int32) (d_sources : Nat → Int32) (n : Nat) (g_count : Int32) (g_kept : Int32) (g_kinds : Nat → Int32) (g_positions : Nat → Int32) (y2 : Int32) (y4 : Int32) : lX4_look_21 k_argumentCounts k_kinds d_keptSet d_count d_sources (n + 1) g_count g_kept g_kinds g_positions y2 y4 =
    if g_count ≤ y4 then (
      lX4_look_53 k_argumentCounts k_kinds d_keptSet d_count d_sources 5000 g_count g_kept g_kinds g_positions 0)
    else (
      bn (fX0_kindOf k_kinds y2 y4) fun v2 =>
      wr 5 g_kinds y4 v2 fun g4 =>
      lX4_look_21 k_argumentCounts k_kinds d_keptSet d_count d_sources n g_count g_kept g4 g_positions y2 (y4 + 1)) := rfl
def fX4_look (g_count : Int32) (g_kept : Int32) (g_kinds : Nat → Int32) (g_positions : Nat → Int32) (k_argumentCounts : Nat → Int32) (k_kinds : Nat → Int32) (d_keptSet : Int32) (d_count : Int32) (d_sources : Nat → Int32) (x2 : Int32) : Option (Int32 × Int32 × (Nat → Int32) × (Nat → Int32)) :=
  rd 8 k_argumentCounts x2 fun v1 =>
  lX4_look_21 k_argumentCounts k_kinds d_keptSet d_count d_sources 5000 v1 d_keptSet g_kinds g_positions x2 0
def lX4_ofKind_4 (g_count : Int32) (g_kinds : Nat → Int32) : Nat → Int32 → Int32 → Int32 → Option (Int32)
  | 0, _, _, _ => none
  | n + 1, y1, y2, y3 =>
    if g_count ≤ y3 then (
      some y2)
    else (
      rd 5 g_kinds y3 fun v2 =>
      if v2 = y1 then (
        bn (fX8_bit y3) fun v4 =>
        lX4_ofKind_4 g_count g_kinds n y1 (y2 ||| v4) (y3 + 1))
      else (
        lX4_ofKind_4 g_count g_kinds n y1 y2 (y3 + 1)))
theorem lX4_ofKind_4_s (g_count : Int32) (g_kinds : Nat → Int32) (n : Nat) (y1 : Int32) (y2 : Int32) (y3 : Int32) : lX4_ofKind_4 g_count g_kinds (n + 1) y1 y2 y3 =
    if g_count ≤ y3 then (
      some y2)
    else (
      rd 5 g_kinds y3 fun v2 =>
      if v2 = y1 then (
        bn (fX8_bit y3) fun v4 =>
        lX4_ofKind_4 g_count g_kinds n y1 (y2 ||| v4) (y3 + 1))
      else (
        lX4_ofKind_4 g_count g_kinds n y1 y2 (y3 + 1))) := rfl
def fX4_ofKind (g_count : Int32) (g_kinds : Nat → Int32) (x1 : Int32) : Option (Int32) :=
  lX4_ofKind_4 g_count g_kinds 5000 x1 0 0
def jX8_conflict_31  (y0 : Int32) (y1 : Int32) (y2 : Int32) (s0 : Int32) : Option (Int32) :=
  if y2 = 0 then (
    some 0)
  else (
    if s0 = 0 then (
      some 0)
    else (
      if y0 = 2 then (
        some 1)
      else (
        if y1 = 2 then (
          some 1)
        else (
          some 0))))
def jX8_conflict_26  (y0 : Int32) (y1 : Int32) (y2 : Int32) : Option (Int32) :=
  jX8_conflict_31  y0 y1 y2 1
def jX8_conflict_15  (y0 : Int32) (y1 : Int32) (s0 : Int32) : Option (Int32) :=
  if y1 = 1 then (
    jX8_conflict_26  y0 y1 s0)
  else (
    if y1 = 2 then (
      jX8_conflict_26  y0 y1 s0)
    else (
      jX8_conflict_31  y0 y1 s0 0))
def jX8_conflict_10  (y0 : Int32) (y1 : Int32) : Option (Int32) :=
  jX8_conflict_15  y0 y1 1
def fX8_conflict  (x0 : Int32) (x1 : Int32) : Option (Int32) :=
  if x0 = 1 then (
    jX8_conflict_10  x0 x1)
  else (
    if x0 = 2 then (
      jX8_conflict_10  x0 x1)
    else (
      jX8_conflict_15  x0 x1 0))
def fX4_staysEarlier (g_positions : Nat → Int32) (x1 : Int32) (x2 : Int32) (x3 : Int32) : Option (Int32) :=
  bn (fX8_contains x3 x1) fun v1 =>
  if v1 = 0 then (
    bn (fX8_contains x3 x2) fun v3 =>
    if v3 = 0 then (
      rd 5 g_positions x1 fun v5 =>
      rd 5 g_positions x2 fun v6 =>
      if v6 ≤ v5 then (
        some 0)
      else (
        some 1))
    else (
      some 0))
  else (
    some 1)
def jX4_keepsOrder_79 (g_count : Int32) (g_kept : Int32) (g_kinds : Nat → Int32) (g_positions : Nat → Int32) (k9 : Int32 → Int32 → Int32 → Option (Int32)) (k20 : Int32 → Int32 → Int32 → Int32 → Option (Int32)) (y1 : Int32) (y2 : Int32) (y3 : Int32) (y4 : Int32) (s0 : Int32) : Option (Int32) :=
  if s0 = 0 then (
    k20 y1 y2 y3 (y4 + 1))
  else (
    bn (fX4_staysEarlier g_positions y4 y3 y1) fun v2 =>
    if v2 = 0 then (
      some 0)
    else (
      k20 y1 y2 y3 (y4 + 1)))
def jX4_keepsOrder_78 (g_count : Int32) (g_kept : Int32) (g_kinds : Nat → Int32) (g_positions : Nat → Int32) (k9 : Int32 → Int32 → Int32 → Option (Int32)) (k20 : Int32 → Int32 → Int32 → Int32 → Option (Int32)) (y1 : Int32) (y2 : Int32) (y3 : Int32) (y4 : Int32) : Option (Int32) :=
  jX4_keepsOrder_79 g_count g_kept g_kinds g_positions k9 k20 y1 y2 y3 y4 0
def jX4_keepsOrder_48 (g_count : Int32) (g_kept : Int32) (g_kinds : Nat → Int32) (g_positions : Nat → Int32) (k9 : Int32 → Int32 → Int32 → Option (Int32)) (k20 : Int32 → Int32 → Int32 → Int32 → Option (Int32)) (y1 : Int32) (y2 : Int32) (y3 : Int32) (y4 : Int32) (s0 : Int32) : Option (Int32) :=
  if s0 = 0 then (
    jX4_keepsOrder_78 g_count g_kept g_kinds g_positions k9 k20 y1 y2 y3 y4)
  else (
    rd 5 g_kinds y4 fun v2 =>
    rd 5 g_kinds y3 fun v3 =>
    bn (fX8_conflict v2 v3) fun v4 =>
    if v4 = 0 then (
      jX4_keepsOrder_78 g_count g_kept g_kinds g_positions k9 k20 y1 y2 y3 y4)
    else (
      jX4_keepsOrder_79 g_count g_kept g_kinds g_positions k9 k20 y1 y2 y3 y4 1))
def jX4_keepsOrder_47 (g_count : Int32) (g_kept : Int32) (g_kinds : Nat → Int32) (g_positions : Nat → Int32) (k9 : Int32 → Int32 → Int32 → Option (Int32)) (k20 : Int32 → Int32 → Int32 → Int32 → Option (Int32)) (y1 : Int32) (y2 : Int32) (y3 : Int32) (y4 : Int32) : Option (Int32) :=
  jX4_keepsOrder_48 g_count g_kept g_kinds g_positions k9 k20 y1 y2 y3 y4 0
def lX4_keepsOrder_20 (g_count : Int32) (g_kept : Int32) (g_kinds : Nat → Int32) (g_positions : Nat → Int32) (k9 : Int32 → Int32 → Int32 → Option (Int32)) : Nat → Int32 → Int32 → Int32 → Int32 → Option (Int32)
  | 0, _, _, _, _ => none
  | n + 1, y1, y2, y3, y4 =>
    if y3 ≤ y4 then (
      k9 y1 y2 (y3 + 1))
    else (
      bn (fX8_contains y2 y4) fun v2 =>
      if v2 = 0 then (
        jX4_keepsOrder_47 g_count g_kept g_kinds g_positions k9 (fun u1 u2 u3 u4 => lX4_keepsOrder_20 g_count g_kept g_kinds g_positions k9 n u1 u2 u3 u4) y1 y2 y3 y4)
      else (
        bn (fX8_contains y2 y3) fun v4 =>
        if v4 = 0 then (
          jX4_keepsOrder_47 g_count g_kept g_kinds g_positions k9 (fun u1 u2 u3 u4 => lX4_keepsOrder_20 g_count g_kept g_kinds g_positions k9 n u1 u2 u3 u4) y1 y2 y3 y4)
        else (
          jX4_keepsOrder_48 g_count g_kept g_kinds g_positions k9 (fun u1 u2 u3 u4 => lX4_keepsOrder_20 g_count g_kept g_kinds g_positions k9 n u1 u2 u3 u4) y1 y2 y3 y4 1)))
theorem lX4_keepsOrder_20_s (g_count : Int32) (g_kept : Int32) (g_kinds : Nat → Int32) (g_positions : Nat → Int32) (k9 : Int32 → Int32 → Int32 → Option (Int32)) (n : Nat) (y1 : Int32) (y2 : Int32) (y3 : Int32) (y4 : Int32) : lX4_keepsOrder_20 g_count g_kept g_kinds g_positions k9 (n + 1) y1 y2 y3 y4 =
    if y3 ≤ y4 then (
      k9 y1 y2 (y3 + 1))
    else (
      bn (fX8_contains y2 y4) fun v2 =>
      if v2 = 0 then (
        jX4_keepsOrder_47 g_count g_kept g_kinds g_positions k9 (fun u1 u2 u3 u4 => lX4_keepsOrder_20 g_count g_kept g_kinds g_positions k9 n u1 u2 u3 u4) y1 y2 y3 y4)
      else (
        bn (fX8_contains y2 y3) fun v4 =>
        if v4 = 0 then (
          jX4_keepsOrder_47 g_count g_kept g_kinds g_positions k9 (fun u1 u2 u3 u4 => lX4_keepsOrder_20 g_count g_kept g_kinds g_positions k9 n u1 u2 u3 u4) y1 y2 y3 y4)
        else (
          jX4_keepsOrder_48 g_count g_kept g_kinds g_positions k9 (fun u1 u2 u3 u4 => lX4_keepsOrder_20 g_count g_kept g_kinds g_positions k9 n u1 u2 u3 u4) y1 y2 y3 y4 1))) := rfl
def lX4_keepsOrder_9 (g_count : Int32) (g_kept : Int32) (g_kinds : Nat → Int32) (g_positions : Nat → Int32) : Nat → Int32 → Int32 → Int32 → Option (Int32)
  | 0, _, _, _ => none
  | n + 1, y1, y2, y3 =>
    if g_count ≤ y3 then (
      some 1)
    else (
      lX4_keepsOrder_20 g_count g_kept g_kinds g_positions (fun u1 u2 u3 => lX4_keepsOrder_9 g_count g_kept g_kinds g_positions n u1 u2 u3) 5000 y1 y2 y3 0)
theorem lX4_keepsOrder_9_s (g_count : Int32) (g_kept : Int32) (g_kinds : Nat → Int32) (g_positions : Nat → Int32) (n : Nat) (y1 : Int32) (y2 : Int32) (y3 : Int32) : lX4_keepsOrder_9 g_count g_kept g_kinds g_positions (n + 1) y1 y2 y3 =
    if g_count ≤ y3 then (
      some 1)
    else (
      lX4_keepsOrder_20 g_count g_kept g_kinds g_positions (fun u1 u2 u3 => lX4_keepsOrder_9 g_count g_kept g_kinds g_positions n u1 u2 u3) 5000 y1 y2 y3 0) := rfl
def fX4_keepsOrder (g_count : Int32) (g_kept : Int32) (g_kinds : Nat → Int32) (g_positions : Nat → Int32) (x1 : Int32) : Option (Int32) :=
  lX4_keepsOrder_9 g_count g_kept g_kinds g_positions 5000 x1 (g_kept ||| x1) 1
def fJ6_bitCount_0f7a4  (x0 : Int32) : Option (Int32) :=
  bn (some (x0 - (((x0.toUInt32 >>> ((1 : Int32).toUInt32 &&& Int32.toUInt32 31)).toInt32) &&& 1431655765))) fun v1 =>
  bn (some ((v1 &&& 858993459) + (((v1.toUInt32 >>> ((2 : Int32).toUInt32 &&& Int32.toUInt32 31)).toInt32) &&& 858993459))) fun v2 =>
  bn (some ((v2 + ((v2.toUInt32 >>> ((4 : Int32).toUInt32 &&& Int32.toUInt32 31)).toInt32)) &&& 252645135)) fun v3 =>
  bn (some (v3 + ((v3.toUInt32 >>> ((8 : Int32).toUInt32 &&& Int32.toUInt32 31)).toInt32))) fun v4 =>
  bn (some (v4 + ((v4.toUInt32 >>> ((16 : Int32).toUInt32 &&& Int32.toUInt32 31)).toInt32))) fun v5 =>
  some (v5 &&& 63)
def jX4_choose_100 (k_argumentCounts : Nat → Int32) (k_kinds : Nat → Int32) (d_keptSet : Int32) (d_count : Int32) (d_sources : Nat → Int32) (k46 : (Int32) → (Int32) → (Nat → Int32) → (Nat → Int32) → Int32 → Int32 → Int32 → Int32 → Option (Int32 × Int32 × Int32 × (Nat → Int32) × (Nat → Int32))) (g_count : Int32) (g_kept : Int32) (g_kinds : Nat → Int32) (g_positions : Nat → Int32) (y4 : Int32) (y5 : Int32) (y6 : Int32) (y7 : Int32) (y8 : Int32) (s0 : Int32) : Option (Int32 × Int32 × Int32 × (Nat → Int32) × (Nat → Int32)) :=
  if y8 = 0 then (
    k46 g_count g_kept g_kinds g_positions y4 y5 y6 (y7 + 1))
  else (
    if s0 = 0 then (
      k46 g_count g_kept g_kinds g_positions y4 y5 y6 (y7 + 1))
    else (
      bn (fX4_keepsOrder g_count g_kept g_kinds g_positions y7) fun v3 =>
      if v3 = 0 then (
        k46 g_count g_kept g_kinds g_positions y4 y5 y6 (y7 + 1))
      else (
        k46 g_count g_kept g_kinds g_positions y4 y5 y7 (y7 + 1))))
def jX4_choose_80 (k_argumentCounts : Nat → Int32) (k_kinds : Nat → Int32) (d_keptSet : Int32) (d_count : Int32) (d_sources : Nat → Int32) (k46 : (Int32) → (Int32) → (Nat → Int32) → (Nat → Int32) → Int32 → Int32 → Int32 → Int32 → Option (Int32 × Int32 × Int32 × (Nat → Int32) × (Nat → Int32))) (g_count : Int32) (g_kept : Int32) (g_kinds : Nat → Int32) (g_positions : Nat → Int32) (y4 : Int32) (y5 : Int32) (y6 : Int32) (y7 : Int32) (s0 : Int32) : Option (Int32 × Int32 × Int32 × (Nat → Int32) × (Nat → Int32)) :=
  bn (fJ6_bitCount_0f7a4 y7) fun v1 =>
  bn (fJ6_bitCount_0f7a4 y6) fun v2 =>
  if v2 ≤ v1 then (
    jX4_choose_100 k_argumentCounts k_kinds d_keptSet d_count d_sources k46 g_count g_kept g_kinds g_positions y4 y5 y6 y7 s0 0)
  else (
    jX4_choose_100 k_argumentCounts k_kinds d_keptSet d_count d_sources k46 g_count g_kept g_kinds g_positions y4 y5 y6 y7 s0 1)
def jX4_choose_79 (k_argumentCounts : Nat → Int32) (k_kinds : Nat → Int32) (d_keptSet : Int32) (d_count : Int32) (d_sources : Nat → Int32) (k46 : (Int32) → (Int32) → (Nat → Int32) → (Nat → Int32) → Int32 → Int32 → Int32 → Int32 → Option (Int32 × Int32 × Int32 × (Nat → Int32) × (Nat → Int32))) (g_count : Int32) (g_kept : Int32) (g_kinds : Nat → Int32) (g_positions : Nat → Int32) (y4 : Int32) (y5 : Int32) (y6 : Int32) (y7 : Int32) : Option (Int32 × Int32 × Int32 × (Nat → Int32) × (Nat → Int32)) :=
  jX4_choose_80 k_argumentCounts k_kinds d_keptSet d_count d_sources k46 g_count g_kept g_kinds g_positions y4 y5 y6 y7 0
def lX4_choose_46 (k_argumentCounts : Nat → Int32) (k_kinds : Nat → Int32) (d_keptSet : Int32) (d_count : Int32) (d_sources : Nat → Int32) : Nat → (Int32) → (Int32) → (Nat → Int32) → (Nat → Int32) → Int32 → Int32 → Int32 → Int32 → Option (Int32 × Int32 × Int32 × (Nat → Int32) × (Nat → Int32))
  | 0, _, _, _, _, _, _, _, _ => none
  | n + 1, g_count, g_kept, g_kinds, g_positions, y4, y5, y6, y7 =>
    bn (fX8_bit 5) fun v1 =>
    if v1 ≤ y7 then (
      some (y6, g_count, g_kept, g_kinds, g_positions))
    else (
      if (y4 &&& (y7 ^^^ (-1))) = 0 then (
        if (y7 &&& (y5 ^^^ (-1))) = 0 then (
          jX4_choose_80 k_argumentCounts k_kinds d_keptSet d_count d_sources (fun w_g_count w_g_kept w_g_kinds w_g_positions u4 u5 u6 u7 => lX4_choose_46 k_argumentCounts k_kinds d_keptSet d_count d_sources n w_g_count w_g_kept w_g_kinds w_g_positions u4 u5 u6 u7) g_count g_kept g_kinds g_positions y4 y5 y6 y7 1)
        else (
          jX4_choose_79 k_argumentCounts k_kinds d_keptSet d_count d_sources (fun w_g_count w_g_kept w_g_kinds w_g_positions u4 u5 u6 u7 => lX4_choose_46 k_argumentCounts k_kinds d_keptSet d_count d_sources n w_g_count w_g_kept w_g_kinds w_g_positions u4 u5 u6 u7) g_count g_kept g_kinds g_positions y4 y5 y6 y7))
      else (
        jX4_choose_79 k_argumentCounts k_kinds d_keptSet d_count d_sources (fun w_g_count w_g_kept w_g_kinds w_g_positions u4 u5 u6 u7 => lX4_choose_46 k_argumentCounts k_kinds d_keptSet d_count d_sources n w_g_count w_g_kept w_g_kinds w_g_positions u4 u5 u6 u7) g_count g_kept g_kinds g_positions y4 y5 y6 y7))
theorem lX4_choose_46_s (k_argumentCounts : Nat → Int32) (k_kinds : Nat → Int32) (d_keptSet : Int32) (d_count : Int32) (d_sources : Nat → Int32) (n : Nat) (g_count : Int32) (g_kept : Int32) (g_kinds : Nat → Int32) (g_positions : Nat → Int32) (y4 : Int32) (y5 : Int32) (y6 : Int32) (y7 : Int32) : lX4_choose_46 k_argumentCounts k_kinds d_keptSet d_count d_sources (n + 1) g_count g_kept g_kinds g_positions y4 y5 y6 y7 =
    bn (fX8_bit 5) fun v1 =>
    if v1 ≤ y7 then (
      some (y6, g_count, g_kept, g_kinds, g_positions))
    else (
      if (y4 &&& (y7 ^^^ (-1))) = 0 then (
        if (y7 &&& (y5 ^^^ (-1))) = 0 then (
          jX4_choose_80 k_argumentCounts k_kinds d_keptSet d_count d_sources (fun w_g_count w_g_kept w_g_kinds w_g_positions u4 u5 u6 u7 => lX4_choose_46 k_argumentCounts k_kinds d_keptSet d_count d_sources n w_g_count w_g_kept w_g_kinds w_g_positions u4 u5 u6 u7) g_count g_kept g_kinds g_positions y4 y5 y6 y7 1)
        else (
          jX4_choose_79 k_argumentCounts k_kinds d_keptSet d_count d_sources (fun w_g_count w_g_kept w_g_kinds w_g_positions u4 u5 u6 u7 => lX4_choose_46 k_argumentCounts k_kinds d_keptSet d_count d_sources n w_g_count w_g_kept w_g_kinds w_g_positions u4 u5 u6 u7) g_count g_kept g_kinds g_positions y4 y5 y6 y7))
      else (
        jX4_choose_79 k_argumentCounts k_kinds d_keptSet d_count d_sources (fun w_g_count w_g_kept w_g_kinds w_g_positions u4 u5 u6 u7 => lX4_choose_46 k_argumentCounts k_kinds d_keptSet d_count d_sources n w_g_count w_g_kept w_g_kinds w_g_positions u4 u5 u6 u7) g_count g_kept g_kinds g_positions y4 y5 y6 y7)) := rfl
def fX4_choose (g_count : Int32) (g_kept : Int32) (g_kinds : Nat → Int32) (g_positions : Nat → Int32) (k_argumentCounts : Nat → Int32) (k_kinds : Nat → Int32) (d_keptSet : Int32) (d_count : Int32) (d_sources : Nat → Int32) (x2 : Int32) : Option (Int32 × Int32 × Int32 × (Nat → Int32) × (Nat → Int32)) :=
  bn4 (fX4_look g_count g_kept g_kinds g_positions k_argumentCounts k_kinds d_keptSet d_count d_sources x2) fun g1 g2 g3 g4 =>
  bn (fX4_ofKind g1 g3 2) fun v5 =>
  bn (fX4_ofKind g1 g3 2) fun v7 =>
  bn (fX4_ofKind g1 g3 1) fun v8 =>
  lX4_choose_46 k_argumentCounts k_kinds d_keptSet d_count d_sources 5000 g1 g2 g3 g4 (v5 &&& (g2 ^^^ (-1))) (v7 ||| (v8 &&& g2)) (v7 ||| (v8 &&& g2)) 0
def fX5_exists (m_count : Int32) (x1 : Int32) : Option (Int32) :=
  if x1 < 0 then (
    some 0)
  else (
    if m_count ≤ x1 then (
      some 0)
    else (
      some 1))
def jX5_withSignature_42 (m_count : Int32) (m_type : Nat → Int32) (m_name : Nat → Int32) (m_arity : Nat → Int32) (k6 : Int32 → Int32 → Int32 → Int32 → Int32 → Option (Int32)) (y1 : Int32) (y2 : Int32) (y3 : Int32) (y4 : Int32) (y5 : Int32) (s0 : Int32) : Option (Int32) :=
  if s0 = 0 then (
    k6 y1 y2 y3 y4 (y5 + 1))
  else (
    rd 16 m_type y5 fun v2 =>
    bn (fX8_contains y3 v2) fun v3 =>
    if v3 = 0 then (
      k6 y1 y2 y3 y4 (y5 + 1))
    else (
      bn (fX8_bit y5) fun v5 =>
      k6 y1 y2 y3 (y4 ||| v5) (y5 + 1)))
def jX5_withSignature_41 (m_count : Int32) (m_type : Nat → Int32) (m_name : Nat → Int32) (m_arity : Nat → Int32) (k6 : Int32 → Int32 → Int32 → Int32 → Int32 → Option (Int32)) (y1 : Int32) (y2 : Int32) (y3 : Int32) (y4 : Int32) (y5 : Int32) : Option (Int32) :=
  jX5_withSignature_42 m_count m_type m_name m_arity k6 y1 y2 y3 y4 y5 0
def lX5_withSignature_6 (m_count : Int32) (m_type : Nat → Int32) (m_name : Nat → Int32) (m_arity : Nat → Int32) : Nat → Int32 → Int32 → Int32 → Int32 → Int32 → Option (Int32)
  | 0, _, _, _, _, _ => none
  | n + 1, y1, y2, y3, y4, y5 =>
    if m_count ≤ y5 then (
      some y4)
    else (
      rd 16 m_name y5 fun v2 =>
      if v2 = y1 then (
        rd 16 m_arity y5 fun v4 =>
        if v4 = y2 then (
          jX5_withSignature_42 m_count m_type m_name m_arity (fun u1 u2 u3 u4 u5 => lX5_withSignature_6 m_count m_type m_name m_arity n u1 u2 u3 u4 u5) y1 y2 y3 y4 y5 1)
        else (
          jX5_withSignature_41 m_count m_type m_name m_arity (fun u1 u2 u3 u4 u5 => lX5_withSignature_6 m_count m_type m_name m_arity n u1 u2 u3 u4 u5) y1 y2 y3 y4 y5))
      else (
        jX5_withSignature_41 m_count m_type m_name m_arity (fun u1 u2 u3 u4 u5 => lX5_withSignature_6 m_count m_type m_name m_arity n u1 u2 u3 u4 u5) y1 y2 y3 y4 y5))
theorem lX5_withSignature_6_s (m_count : Int32) (m_type : Nat → Int32) (m_name : Nat → Int32) (m_arity : Nat → Int32) (n : Nat) (y1 : Int32) (y2 : Int32) (y3 : Int32) (y4 : Int32) (y5 : Int32) : lX5_withSignature_6 m_count m_type m_name m_arity (n + 1) y1 y2 y3 y4 y5 =
    if m_count ≤ y5 then (
      some y4)
    else (
      rd 16 m_name y5 fun v2 =>
      if v2 = y1 then (
        rd 16 m_arity y5 fun v4 =>
        if v4 = y2 then (
          jX5_withSignature_42 m_count m_type m_name m_arity (fun u1 u2 u3 u4 u5 => lX5_withSignature_6 m_count m_type m_name m_arity n u1 u2 u3 u4 u5) y1 y2 y3 y4 y5 1)
        else (
          jX5_withSignature_41 m_count m_type m_name m_arity (fun u1 u2 u3 u4 u5 => lX5_withSignature_6 m_count m_type m_name m_arity n u1 u2 u3 u4 u5) y1 y2 y3 y4 y5))
      else (
        jX5_withSignature_41 m_count m_type m_name m_arity (fun u1 u2 u3 u4 u5 => lX5_withSignature_6 m_count m_type m_name m_arity n u1 u2 u3 u4 u5) y1 y2 y3 y4 y5)) := rfl
def fX5_withSignature (m_count : Int32) (m_type : Nat → Int32) (m_name : Nat → Int32) (m_arity : Nat → Int32) (x1 : Int32) (x2 : Int32) (x3 : Int32) : Option (Int32) :=
  lX5_withSignature_6 m_count m_type m_name m_arity 5000 x1 x2 x3 0 0
def lX5_smallest_2 (m_count : Int32) : Nat → Int32 → Int32 → Option (Int32)
  | 0, _, _ => none
  | n + 1, y1, y2 =>
    if m_count ≤ y2 then (
      some (-9))
    else (
      bn (fX8_contains y1 y2) fun v2 =>
      if v2 = 0 then (
        lX5_smallest_2 m_count n y1 (y2 + 1))
      else (
        some y2))
theorem lX5_smallest_2_s (m_count : Int32) (n : Nat) (y1 : Int32) (y2 : Int32) : lX5_smallest_2 m_count (n + 1) y1 y2 =
    if m_count ≤ y2 then (
      some (-9))
    else (
      bn (fX8_contains y1 y2) fun v2 =>
      if v2 = 0 then (
        lX5_smallest_2 m_count n y1 (y2 + 1))
      else (
        some y2)) := rfl
def fX5_smallest (m_count : Int32) (x1 : Int32) : Option (Int32) :=
  lX5_smallest_2 m_count 5000 x1 0
def fX5_declaredBy (m_count : Int32) (m_type : Nat → Int32) (m_name : Nat → Int32) (m_arity : Nat → Int32) (x1 : Int32) (x2 : Int32) (x3 : Int32) : Option (Int32) :=
  bn (fX8_bit x1) fun v1 =>
  bn (fX5_withSignature m_count m_type m_name m_arity x2 x3 v1) fun v2 =>
  bn (fX5_smallest m_count v2) fun v4 =>
  some v4
def lX5_typesOf_4 (m_count : Int32) (m_type : Nat → Int32) : Nat → Int32 → Int32 → Int32 → Option (Int32)
  | 0, _, _, _ => none
  | n + 1, y1, y2, y3 =>
    if m_count ≤ y3 then (
      some y2)
    else (
      bn (fX8_contains y1 y3) fun v2 =>
      if v2 = 0 then (
        lX5_typesOf_4 m_count m_type n y1 y2 (y3 + 1))
      else (
        rd 16 m_type y3 fun v4 =>
        bn (fX8_bit v4) fun v5 =>
        lX5_typesOf_4 m_count m_type n y1 (y2 ||| v5) (y3 + 1)))
theorem lX5_typesOf_4_s (m_count : Int32) (m_type : Nat → Int32) (n : Nat) (y1 : Int32) (y2 : Int32) (y3 : Int32) : lX5_typesOf_4 m_count m_type (n + 1) y1 y2 y3 =
    if m_count ≤ y3 then (
      some y2)
    else (
      bn (fX8_contains y1 y3) fun v2 =>
      if v2 = 0 then (
        lX5_typesOf_4 m_count m_type n y1 y2 (y3 + 1))
      else (
        rd 16 m_type y3 fun v4 =>
        bn (fX8_bit v4) fun v5 =>
        lX5_typesOf_4 m_count m_type n y1 (y2 ||| v5) (y3 + 1))) := rfl
def fX5_typesOf (m_count : Int32) (m_type : Nat → Int32) (x1 : Int32) : Option (Int32) :=
  lX5_typesOf_4 m_count m_type 5000 x1 0 0
def jX5_sameParameters_32 (m_arity : Nat → Int32) (m_keys : Nat → Int32) (m_defaults : Nat → Int32) (k2 : Int32 → Int32 → Int32 → Option (Int32)) (y1 : Int32) (y2 : Int32) (y3 : Int32) (s0 : Int32) : Option (Int32) :=
  if s0 = 0 then (
    some 0)
  else (
    bn (fX5_defaultOf m_defaults y1 y3) fun v2 =>
    bn (fX5_defaultOf m_defaults y2 y3) fun v4 =>
    if v2 = v4 then (
      k2 y1 y2 (y3 + 1))
    else (
      some 0))
def lX5_sameParameters_2 (m_arity : Nat → Int32) (m_keys : Nat → Int32) (m_defaults : Nat → Int32) : Nat → Int32 → Int32 → Int32 → Option (Int32)
  | 0, _, _, _ => none
  | n + 1, y1, y2, y3 =>
    rd 16 m_arity y1 fun v1 =>
    if v1 ≤ y3 then (
      some 1)
    else (
      bn (fX5_keyOf m_keys y1 y3) fun v3 =>
      bn (fX5_keyOf m_keys y2 y3) fun v5 =>
      if v3 = v5 then (
        jX5_sameParameters_32 m_arity m_keys m_defaults (fun u1 u2 u3 => lX5_sameParameters_2 m_arity m_keys m_defaults n u1 u2 u3) y1 y2 y3 1)
      else (
        jX5_sameParameters_32 m_arity m_keys m_defaults (fun u1 u2 u3 => lX5_sameParameters_2 m_arity m_keys m_defaults n u1 u2 u3) y1 y2 y3 0))
theorem lX5_sameParameters_2_s (m_arity : Nat → Int32) (m_keys : Nat → Int32) (m_defaults : Nat → Int32) (n : Nat) (y1 : Int32) (y2 : Int32) (y3 : Int32) : lX5_sameParameters_2 m_arity m_keys m_defaults (n + 1) y1 y2 y3 =
    rd 16 m_arity y1 fun v1 =>
    if v1 ≤ y3 then (
      some 1)
    else (
      bn (fX5_keyOf m_keys y1 y3) fun v3 =>
      bn (fX5_keyOf m_keys y2 y3) fun v5 =>
      if v3 = v5 then (
        jX5_sameParameters_32 m_arity m_keys m_defaults (fun u1 u2 u3 => lX5_sameParameters_2 m_arity m_keys m_defaults n u1 u2 u3) y1 y2 y3 1)
      else (
        jX5_sameParameters_32 m_arity m_keys m_defaults (fun u1 u2 u3 => lX5_sameParameters_2 m_arity m_keys m_defaults n u1 u2 u3) y1 y2 y3 0)) := rfl
def fX5_sameParameters (m_arity : Nat → Int32) (m_keys : Nat → Int32) (m_defaults : Nat → Int32) (x1 : Int32) (x2 : Int32) : Option (Int32) :=
  lX5_sameParameters_2 m_arity m_keys m_defaults 5000 x1 x2 0
def lX5_agree_18 (m_count : Int32) (m_arity : Nat → Int32) (m_keys : Nat → Int32) (m_defaults : Nat → Int32) : Nat → Int32 → Int32 → Int32 → Option (Int32)
  | 0, _, _, _ => none
  | n + 1, y1, y2, y3 =>
    if m_count ≤ y3 then (
      some 1)
    else (
      bn (fX8_contains y1 y3) fun v2 =>
      if v2 = 0 then (
        lX5_agree_18 m_count m_arity m_keys m_defaults n y1 y2 (y3 + 1))
      else (
        bn (fX5_sameParameters m_arity m_keys m_defaults y2 y3) fun v4 =>
        if v4 = 0 then (
          some 0)
        else (
          lX5_agree_18 m_count m_arity m_keys m_defaults n y1 y2 (y3 + 1))))
theorem lX5_agree_18_s (m_count : Int32) (m_arity : Nat → Int32) (m_keys : Nat → Int32) (m_defaults : Nat → Int32) (n : Nat) (y1 : Int32) (y2 : Int32) (y3 : Int32) : lX5_agree_18 m_count m_arity m_keys m_defaults (n + 1) y1 y2 y3 =
    if m_count ≤ y3 then (
      some 1)
    else (
      bn (fX8_contains y1 y3) fun v2 =>
      if v2 = 0 then (
        lX5_agree_18 m_count m_arity m_keys m_defaults n y1 y2 (y3 + 1))
      else (
        bn (fX5_sameParameters m_arity m_keys m_defaults y2 y3) fun v4 =>
        if v4 = 0 then (
          some 0)
        else (
          lX5_agree_18 m_count m_arity m_keys m_defaults n y1 y2 (y3 + 1)))) := rfl
def fX5_agree (m_count : Int32) (m_arity : Nat → Int32) (m_keys : Nat → Int32) (m_defaults : Nat → Int32) (x1 : Int32) : Option (Int32) :=
  bn (fX5_smallest m_count x1) fun v1 =>
  if v1 = (-9) then (
    some 1)
  else (
    lX5_agree_18 m_count m_arity m_keys m_defaults 5000 x1 v1 (v1 + 1))
def lX5_disagreeWithin_2 (m_count : Int32) (m_type : Nat → Int32) (m_name : Nat → Int32) (m_arity : Nat → Int32) (m_keys : Nat → Int32) (m_defaults : Nat → Int32) : Nat → Int32 → Int32 → Option (Int32)
  | 0, _, _ => none
  | n + 1, y1, y2 =>
    if m_count ≤ y2 then (
      some 0)
    else (
      rd 16 m_type y2 fun v2 =>
      bn (fX8_contains y1 v2) fun v3 =>
      if v3 = 0 then (
        lX5_disagreeWithin_2 m_count m_type m_name m_arity m_keys m_defaults n y1 (y2 + 1))
      else (
        rd 16 m_name y2 fun v5 =>
        rd 16 m_arity y2 fun v6 =>
        bn (fX5_withSignature m_count m_type m_name m_arity v5 v6 y1) fun v7 =>
        bn (fX5_agree m_count m_arity m_keys m_defaults v7) fun v9 =>
        if v9 = 0 then (
          some 1)
        else (
          lX5_disagreeWithin_2 m_count m_type m_name m_arity m_keys m_defaults n y1 (y2 + 1))))
theorem lX5_disagreeWithin_2_s (m_count : Int32) (m_type : Nat → Int32) (m_name : Nat → Int32) (m_arity : Nat → Int32) (m_keys : Nat → Int32) (m_defaults : Nat → Int32) (n : Nat) (y1 : Int32) (y2 : Int32) : lX5_disagreeWithin_2 m_count m_type m_name m_arity m_keys m_defaults (n + 1) y1 y2 =
    if m_count ≤ y2 then (
      some 0)
    else (
      rd 16 m_type y2 fun v2 =>
      bn (fX8_contains y1 v2) fun v3 =>
      if v3 = 0 then (
        lX5_disagreeWithin_2 m_count m_type m_name m_arity m_keys m_defaults n y1 (y2 + 1))
      else (
        rd 16 m_name y2 fun v5 =>
        rd 16 m_arity y2 fun v6 =>
        bn (fX5_withSignature m_count m_type m_name m_arity v5 v6 y1) fun v7 =>
        bn (fX5_agree m_count m_arity m_keys m_defaults v7) fun v9 =>
        if v9 = 0 then (
          some 1)
        else (
          lX5_disagreeWithin_2 m_count m_type m_name m_arity m_keys m_defaults n y1 (y2 + 1)))) := rfl
def fX5_disagreeWithin (m_count : Int32) (m_type : Nat → Int32) (m_name : Nat → Int32) (m_arity : Nat → Int32) (m_keys : Nat → Int32) (m_defaults : Nat → Int32) (x1 : Int32) : Option (Int32) :=
  lX5_disagreeWithin_2 m_count m_type m_name m_arity m_keys m_defaults 5000 x1 0
def fX5_putParameter (m_keys : Nat → Int32) (m_defaults : Nat → Int32) (x1 : Int32) (x2 : Int32) (x3 : Int32) (x4 : Int32) : Option ((Nat → Int32) × (Nat → Int32)) :=
  wr 80 m_keys ((x1 * 5) + x2) x3 fun g1 =>
  wr 80 m_defaults ((x1 * 5) + x2) x4 fun g2 =>
  some (g1, g2)
def jX5_add_87  (k33 : (Int32) → (Nat → Int32) → (Nat → Int32) → (Nat → Int32) → (Nat → Int32) → (Nat → Int32) → Int32 → Int32 → Int32 → Int32 → Option (Int32 × Int32 × (Nat → Int32) × (Nat → Int32) × (Nat → Int32) × (Nat → Int32) × (Nat → Int32))) (m_count : Int32) (m_type : Nat → Int32) (m_name : Nat → Int32) (m_arity : Nat → Int32) (m_keys : Nat → Int32) (m_defaults : Nat → Int32) (y3 : Int32) (y4 : Int32) (y5 : Int32) (y6 : Int32) (s1 : Int32) (s2 : Int32) (s3 : Int32) (s4 : Int32) : Option (Int32 × Int32 × (Nat → Int32) × (Nat → Int32) × (Nat → Int32) × (Nat → Int32) × (Nat → Int32)) :=
  bn2 (fX5_putParameter m_keys m_defaults s1 s2 s3 s4) fun g1 g2 =>
  k33 m_count m_type m_name m_arity g1 g2 y3 y4 y5 (y6 + 1)
def jX5_add_59  (k33 : (Int32) → (Nat → Int32) → (Nat → Int32) → (Nat → Int32) → (Nat → Int32) → (Nat → Int32) → Int32 → Int32 → Int32 → Int32 → Option (Int32 × Int32 × (Nat → Int32) × (Nat → Int32) × (Nat → Int32) × (Nat → Int32) × (Nat → Int32))) (m_count : Int32) (m_type : Nat → Int32) (m_name : Nat → Int32) (m_arity : Nat → Int32) (m_keys : Nat → Int32) (m_defaults : Nat → Int32) (y3 : Int32) (y4 : Int32) (y5 : Int32) (y6 : Int32) (s0 : Int32) : Option (Int32 × Int32 × (Nat → Int32) × (Nat → Int32) × (Nat → Int32) × (Nat → Int32) × (Nat → Int32)) :=
  if y4 = (-9) then (
    jX5_add_87  k33 m_count m_type m_name m_arity m_keys m_defaults y3 y4 y5 y6 y5 y6 s0 0)
  else (
    bn (fX5_defaultOf m_defaults y4 y6) fun v2 =>
    jX5_add_87  k33 m_count m_type m_name m_arity m_keys m_defaults y3 y4 y5 y6 y5 y6 s0 v2)
def lX5_add_33  : Nat → (Int32) → (Nat → Int32) → (Nat → Int32) → (Nat → Int32) → (Nat → Int32) → (Nat → Int32) → Int32 → Int32 → Int32 → Int32 → Option (Int32 × Int32 × (Nat → Int32) × (Nat → Int32) × (Nat → Int32) × (Nat → Int32) × (Nat → Int32))
  | 0, _, _, _, _, _, _, _, _, _, _ => none
  | n + 1, m_count, m_type, m_name, m_arity, m_keys, m_defaults, y3, y4, y5, y6 =>
    if y3 ≤ y6 then (
      some (y5, m_count + 1, m_type, m_name, m_arity, m_keys, m_defaults))
    else (
      if y4 = (-9) then (
        jX5_add_59  (fun w_m_count w_m_type w_m_name w_m_arity w_m_keys w_m_defaults u3 u4 u5 u6 => lX5_add_33  n w_m_count w_m_type w_m_name w_m_arity w_m_keys w_m_defaults u3 u4 u5 u6) m_count m_type m_name m_arity m_keys m_defaults y3 y4 y5 y6 y6)
      else (
        bn (fX5_keyOf m_keys y4 y6) fun v3 =>
        jX5_add_59  (fun w_m_count w_m_type w_m_name w_m_arity w_m_keys w_m_defaults u3 u4 u5 u6 => lX5_add_33  n w_m_count w_m_type w_m_name w_m_arity w_m_keys w_m_defaults u3 u4 u5 u6) m_count m_type m_name m_arity m_keys m_defaults y3 y4 y5 y6 v3))
theorem lX5_add_33_s  (n : Nat) (m_count : Int32) (m_type : Nat → Int32) (m_name : Nat → Int32) (m_arity : Nat → Int32) (m_keys : Nat → Int32) (m_defaults : Nat → Int32) (y3 : Int32) (y4 : Int32) (y5 : Int32) (y6 : Int32) : lX5_add_33  (n + 1) m_count m_type m_name m_arity m_keys m_defaults y3 y4 y5 y6 =
    if y3 ≤ y6 then (
      some (y5, m_count + 1, m_type, m_name, m_arity, m_keys, m_defaults))
    else (
      if y4 = (-9) then (
        jX5_add_59  (fun w_m_count w_m_type w_m_name w_m_arity w_m_keys w_m_defaults u3 u4 u5 u6 => lX5_add_33  n w_m_count w_m_type w_m_name w_m_arity w_m_keys w_m_defaults u3 u4 u5 u6) m_count m_type m_name m_arity m_keys m_defaults y3 y4 y5 y6 y6)
      else (
        bn (fX5_keyOf m_keys y4 y6) fun v3 =>
        jX5_add_59  (fun w_m_count w_m_type w_m_name w_m_arity w_m_keys w_m_defaults u3 u4 u5 u6 => lX5_add_33  n w_m_count w_m_type w_m_name w_m_arity w_m_keys w_m_defaults u3 u4 u5 u6) m_count m_type m_name m_arity m_keys m_defaults y3 y4 y5 y6 v3)) := rfl
def fX5_add (m_count : Int32) (m_type : Nat → Int32) (m_name : Nat → Int32) (m_arity : Nat → Int32) (m_keys : Nat → Int32) (m_defaults : Nat → Int32) (x1 : Int32) (x2 : Int32) (x3 : Int32) (x4 : Int32) : Option (Int32 × Int32 × (Nat → Int32) × (Nat → Int32) × (Nat → Int32) × (Nat → Int32) × (Nat → Int32)) :=
  wr 16 m_type m_count x1 fun g1 =>
  wr 16 m_name m_count x2 fun g2 =>
  wr 16 m_arity m_count x3 fun g3 =>
  lX5_add_33  5000 m_count g1 g2 g3 m_keys m_defaults x3 x4 m_count 0
def lX5_replaceParameters_33 (m_count : Int32) (d_family : Int32) (d_count : Int32) (d_keys : Nat → Int32) (d_defaults : Nat → Int32) (k2 : (Nat → Int32) → (Nat → Int32) → (Nat → Int32) → Int32 → Option ((Nat → Int32) × (Nat → Int32) × (Nat → Int32))) : Nat → (Nat → Int32) → (Nat → Int32) → (Nat → Int32) → Int32 → Int32 → Option ((Nat → Int32) × (Nat → Int32) × (Nat → Int32))
  | 0, _, _, _, _, _ => none
  | n + 1, m_arity, m_keys, m_defaults, y2, y3 =>
    if d_count ≤ y3 then (
      k2 m_arity m_keys m_defaults (y2 + 1))
    else (
      rd 5 d_keys y3 fun v2 =>
      rd 5 d_defaults y3 fun v3 =>
      bn2 (fX5_putParameter m_keys m_defaults y2 y3 v2 v3) fun g4 g5 =>
      lX5_replaceParameters_33 m_count d_family d_count d_keys d_defaults k2 n m_arity g4 g5 y2 (y3 + 1))
theorem lX5_replaceParameters_33_s (m_count : Int32) (d_family : Int32) (d_count : Int32) (d_keys : Nat → Int32) (d_defaults : Nat → Int32) (k2 : (Nat → Int32) → (Nat → Int32) → (Nat → Int32) → Int32 → Option ((Nat → Int32) × (Nat → Int32) × (Nat → Int32))) (n : Nat) (m_arity : Nat → Int32) (m_keys : Nat → Int32) (m_defaults : Nat → Int32) (y2 : Int32) (y3 : Int32) : lX5_replaceParameters_33 m_count d_family d_count d_keys d_defaults k2 (n + 1) m_arity m_keys m_defaults y2 y3 =
    if d_count ≤ y3 then (
      k2 m_arity m_keys m_defaults (y2 + 1))
    else (
      rd 5 d_keys y3 fun v2 =>
      rd 5 d_defaults y3 fun v3 =>
      bn2 (fX5_putParameter m_keys m_defaults y2 y3 v2 v3) fun g4 g5 =>
      lX5_replaceParameters_33 m_count d_family d_count d_keys d_defaults k2 n m_arity g4 g5 y2 (y3 + 1)) := rfl
def lX5_replaceParameters_2 (m_count : Int32) (d_family : Int32) (d_count : Int32) (d_keys : Nat → Int32) (d_defaults : Nat → Int32) : Nat → (Nat → Int32) → (Nat → Int32) → (Nat → Int32) → Int32 → Option ((Nat → Int32) × (Nat → Int32) × (Nat → Int32))
  | 0, _, _, _, _ => none
  | n + 1, m_arity, m_keys, m_defaults, y2 =>
    if m_count ≤ y2 then (
      some (m_arity, m_keys, m_defaults))
    else (
      bn (fX8_contains d_family y2) fun v2 =>
      if v2 = 0 then (
        lX5_replaceParameters_2 m_count d_family d_count d_keys d_defaults n m_arity m_keys m_defaults (y2 + 1))
      else (
        wr 16 m_arity y2 d_count fun g4 =>
        lX5_replaceParameters_33 m_count d_family d_count d_keys d_defaults (fun w_m_arity w_m_keys w_m_defaults u2 => lX5_replaceParameters_2 m_count d_family d_count d_keys d_defaults n w_m_arity w_m_keys w_m_defaults u2) 5000 g4 m_keys m_defaults y2 0))
theorem lX5_replaceParameters_2_s (m_count : Int32) (d_family : Int32) (d_count : Int32) (d_keys : Nat → Int32) (d_defaults : Nat → Int32) (n : Nat) (m_arity : Nat → Int32) (m_keys : Nat → Int32) (m_defaults : Nat → Int32) (y2 : Int32) : lX5_replaceParameters_2 m_count d_family d_count d_keys d_defaults (n + 1) m_arity m_keys m_defaults y2 =
    if m_count ≤ y2 then (
      some (m_arity, m_keys, m_defaults))
    else (
      bn (fX8_contains d_family y2) fun v2 =>
      if v2 = 0 then (
        lX5_replaceParameters_2 m_count d_family d_count d_keys d_defaults n m_arity m_keys m_defaults (y2 + 1))
      else (
        wr 16 m_arity y2 d_count fun g4 =>
        lX5_replaceParameters_33 m_count d_family d_count d_keys d_defaults (fun w_m_arity w_m_keys w_m_defaults u2 => lX5_replaceParameters_2 m_count d_family d_count d_keys d_defaults n w_m_arity w_m_keys w_m_defaults u2) 5000 g4 m_keys m_defaults y2 0)) := rfl
def fX5_replaceParameters (m_count : Int32) (m_arity : Nat → Int32) (m_keys : Nat → Int32) (m_defaults : Nat → Int32) (d_family : Int32) (d_count : Int32) (d_keys : Nat → Int32) (d_defaults : Nat → Int32) : Option ((Nat → Int32) × (Nat → Int32) × (Nat → Int32)) :=
  lX5_replaceParameters_2 m_count d_family d_count d_keys d_defaults 5000 m_arity m_keys m_defaults 0
def lX7_connectedWith_4 (t_count : Int32) (t_supertypes : Nat → Int32) : Nat → Int32 → Int32 → Int32 → Option (Int32)
  | 0, _, _, _ => none
  | n + 1, y1, y2, y3 =>
    if t_count ≤ y3 then (
      some y2)
    else (
      rd 8 t_supertypes y3 fun v2 =>
      if (v2 &&& y1) = 0 then (
        lX7_connectedWith_4 t_count t_supertypes n y1 y2 (y3 + 1))
      else (
        rd 8 t_supertypes y3 fun v4 =>
        lX7_connectedWith_4 t_count t_supertypes n y1 (y2 ||| v4) (y3 + 1)))
theorem lX7_connectedWith_4_s (t_count : Int32) (t_supertypes : Nat → Int32) (n : Nat) (y1 : Int32) (y2 : Int32) (y3 : Int32) : lX7_connectedWith_4 t_count t_supertypes (n + 1) y1 y2 y3 =
    if t_count ≤ y3 then (
      some y2)
    else (
      rd 8 t_supertypes y3 fun v2 =>
      if (v2 &&& y1) = 0 then (
        lX7_connectedWith_4 t_count t_supertypes n y1 y2 (y3 + 1))
      else (
        rd 8 t_supertypes y3 fun v4 =>
        lX7_connectedWith_4 t_count t_supertypes n y1 (y2 ||| v4) (y3 + 1))) := rfl
def fX7_connectedWith (t_count : Int32) (t_supertypes : Nat → Int32) (x1 : Int32) : Option (Int32) :=
  lX7_connectedWith_4 t_count t_supertypes 5000 x1 0 0
def lX6_familyOf_29 (t_count : Int32) (t_supertypes : Nat → Int32) (m_count : Int32) (m_type : Nat → Int32) (m_name : Nat → Int32) (m_arity : Nat → Int32) : Nat → Int32 → Int32 → Int32 → Int32 → Option (Int32)
  | 0, _, _, _, _ => none
  | n + 1, y2, y3, y4, y5 =>
    if m_count ≤ y5 then (
      some y4)
    else (
      bn (fX5_typesOf m_count m_type y4) fun v2 =>
      bn (fX7_connectedWith t_count t_supertypes v2) fun v4 =>
      bn (fX5_withSignature m_count m_type m_name m_arity y2 y3 v4) fun v6 =>
      if v6 = y4 then (
        some y4)
      else (
        lX6_familyOf_29 t_count t_supertypes m_count m_type m_name m_arity n y2 y3 v6 (y5 + 1)))
theorem lX6_familyOf_29_s (t_count : Int32) (t_supertypes : Nat → Int32) (m_count : Int32) (m_type : Nat → Int32) (m_name : Nat → Int32) (m_arity : Nat → Int32) (n : Nat) (y2 : Int32) (y3 : Int32) (y4 : Int32) (y5 : Int32) : lX6_familyOf_29 t_count t_supertypes m_count m_type m_name m_arity (n + 1) y2 y3 y4 y5 =
    if m_count ≤ y5 then (
      some y4)
    else (
      bn (fX5_typesOf m_count m_type y4) fun v2 =>
      bn (fX7_connectedWith t_count t_supertypes v2) fun v4 =>
      bn (fX5_withSignature m_count m_type m_name m_arity y2 y3 v4) fun v6 =>
      if v6 = y4 then (
        some y4)
      else (
        lX6_familyOf_29 t_count t_supertypes m_count m_type m_name m_arity n y2 y3 v6 (y5 + 1))) := rfl
def fX6_familyOf (t_count : Int32) (t_supertypes : Nat → Int32) (m_count : Int32) (m_type : Nat → Int32) (m_name : Nat → Int32) (m_arity : Nat → Int32) (x1 : Int32) : Option (Int32) :=
  rd 16 m_name x1 fun v1 =>
  rd 16 m_arity x1 fun v2 =>
  bn (fX8_bit x1) fun v3 =>
  lX6_familyOf_29 t_count t_supertypes m_count m_type m_name m_arity 5000 v1 v2 v3 0
def fX6_targetFor (t_supertypes : Nat → Int32) (m_count : Int32) (m_type : Nat → Int32) (m_name : Nat → Int32) (m_arity : Nat → Int32) (x1 : Int32) (x2 : Int32) (x3 : Int32) : Option (Int32) :=
  rd 8 t_supertypes x1 fun v1 =>
  bn (fX5_withSignature m_count m_type m_name m_arity x2 x3 v1) fun v2 =>
  bn (fX5_smallest m_count v2) fun v4 =>
  some v4
def jX6_classMethod_41 (t_count : Int32) (m_count : Int32) (m_type : Nat → Int32) (m_name : Nat → Int32) (m_arity : Nat → Int32) (k11 : Int32 → Int32 → Int32 → Int32 → Option (Int32)) (y1 : Int32) (y2 : Int32) (y3 : Int32) (y4 : Int32) (s0 : Int32) : Option (Int32) :=
  if s0 = (-9) then (
    k11 y1 y2 y3 (y4 + (-1)))
  else (
    some s0)
def lX6_classMethod_11 (t_count : Int32) (m_count : Int32) (m_type : Nat → Int32) (m_name : Nat → Int32) (m_arity : Nat → Int32) : Nat → Int32 → Int32 → Int32 → Int32 → Option (Int32)
  | 0, _, _, _, _ => none
  | n + 1, y1, y2, y3, y4 =>
    if y4 < 0 then (
      some (-9))
    else (
      bn (fX8_contains y1 y4) fun v2 =>
      if v2 = 0 then (
        jX6_classMethod_41 t_count m_count m_type m_name m_arity (fun u1 u2 u3 u4 => lX6_classMethod_11 t_count m_count m_type m_name m_arity n u1 u2 u3 u4) y1 y2 y3 y4 (-9))
      else (
        bn (fX5_declaredBy m_count m_type m_name m_arity y4 y2 y3) fun v4 =>
        jX6_classMethod_41 t_count m_count m_type m_name m_arity (fun u1 u2 u3 u4 => lX6_classMethod_11 t_count m_count m_type m_name m_arity n u1 u2 u3 u4) y1 y2 y3 y4 v4))
theorem lX6_classMethod_11_s (t_count : Int32) (m_count : Int32) (m_type : Nat → Int32) (m_name : Nat → Int32) (m_arity : Nat → Int32) (n : Nat) (y1 : Int32) (y2 : Int32) (y3 : Int32) (y4 : Int32) : lX6_classMethod_11 t_count m_count m_type m_name m_arity (n + 1) y1 y2 y3 y4 =
    if y4 < 0 then (
      some (-9))
    else (
      bn (fX8_contains y1 y4) fun v2 =>
      if v2 = 0 then (
        jX6_classMethod_41 t_count m_count m_type m_name m_arity (fun u1 u2 u3 u4 => lX6_classMethod_11 t_count m_count m_type m_name m_arity n u1 u2 u3 u4) y1 y2 y3 y4 (-9))
      else (
        bn (fX5_declaredBy m_count m_type m_name m_arity y4 y2 y3) fun v4 =>
        jX6_classMethod_41 t_count m_count m_type m_name m_arity (fun u1 u2 u3 u4 => lX6_classMethod_11 t_count m_count m_type m_name m_arity n u1 u2 u3 u4) y1 y2 y3 y4 v4)) := rfl
def fX6_classMethod (t_count : Int32) (m_count : Int32) (m_type : Nat → Int32) (m_name : Nat → Int32) (m_arity : Nat → Int32) (x1 : Int32) (x2 : Int32) (x3 : Int32) : Option (Int32) :=
  lX6_classMethod_11 t_count m_count m_type m_name m_arity 5000 x1 x2 x3 (t_count - 1)
def fX7_inherits (t_supertypes : Nat → Int32) (x1 : Int32) (x2 : Int32) : Option (Int32) :=
  rd 8 t_supertypes x1 fun v1 =>
  bn (fX8_contains v1 x2) fun v2 =>
  rb v2
def lX6_hasSubtypeIn_2 (t_count : Int32) (t_supertypes : Nat → Int32) : Nat → Int32 → Int32 → Int32 → Option (Int32)
  | 0, _, _, _ => none
  | n + 1, y1, y2, y3 =>
    if t_count ≤ y3 then (
      some 0)
    else (
      bn (fX8_contains y1 y3) fun v2 =>
      if v2 = 0 then (
        lX6_hasSubtypeIn_2 t_count t_supertypes n y1 y2 (y3 + 1))
      else (
        bn (fX7_inherits t_supertypes y3 y2) fun v4 =>
        if v4 = 0 then (
          lX6_hasSubtypeIn_2 t_count t_supertypes n y1 y2 (y3 + 1))
        else (
          some 1)))
theorem lX6_hasSubtypeIn_2_s (t_count : Int32) (t_supertypes : Nat → Int32) (n : Nat) (y1 : Int32) (y2 : Int32) (y3 : Int32) : lX6_hasSubtypeIn_2 t_count t_supertypes (n + 1) y1 y2 y3 =
    if t_count ≤ y3 then (
      some 0)
    else (
      bn (fX8_contains y1 y3) fun v2 =>
      if v2 = 0 then (
        lX6_hasSubtypeIn_2 t_count t_supertypes n y1 y2 (y3 + 1))
      else (
        bn (fX7_inherits t_supertypes y3 y2) fun v4 =>
        if v4 = 0 then (
          lX6_hasSubtypeIn_2 t_count t_supertypes n y1 y2 (y3 + 1))
        else (
          some 1))) := rfl
def fX6_hasSubtypeIn (t_count : Int32) (t_supertypes : Nat → Int32) (x1 : Int32) (x2 : Int32) : Option (Int32) :=
  lX6_hasSubtypeIn_2 t_count t_supertypes 5000 x1 x2 0
def lX6_interfaceMethod_22 (t_count : Int32) (t_supertypes : Nat → Int32) (m_count : Int32) (m_type : Nat → Int32) (m_name : Nat → Int32) (m_arity : Nat → Int32) : Nat → Int32 → Int32 → Int32 → Int32 → Option (Int32)
  | 0, _, _, _, _ => none
  | n + 1, y2, y3, y4, y5 =>
    if t_count ≤ y5 then (
      some (-9))
    else (
      bn (fX8_contains y4 y5) fun v2 =>
      if v2 = 0 then (
        lX6_interfaceMethod_22 t_count t_supertypes m_count m_type m_name m_arity n y2 y3 y4 (y5 + 1))
      else (
        bn (fX8_bit y5) fun v4 =>
        bn (fX6_hasSubtypeIn t_count t_supertypes (y4 &&& (v4 ^^^ (-1))) y5) fun v5 =>
        if v5 = 0 then (
          bn (fX5_declaredBy m_count m_type m_name m_arity y5 y2 y3) fun v8 =>
          some v8)
        else (
          lX6_interfaceMethod_22 t_count t_supertypes m_count m_type m_name m_arity n y2 y3 y4 (y5 + 1))))
theorem lX6_interfaceMethod_22_s (t_count : Int32) (t_supertypes : Nat → Int32) (m_count : Int32) (m_type : Nat → Int32) (m_name : Nat → Int32) (m_arity : Nat → Int32) (n : Nat) (y2 : Int32) (y3 : Int32) (y4 : Int32) (y5 : Int32) : lX6_interfaceMethod_22 t_count t_supertypes m_count m_type m_name m_arity (n + 1) y2 y3 y4 y5 =
    if t_count ≤ y5 then (
      some (-9))
    else (
      bn (fX8_contains y4 y5) fun v2 =>
      if v2 = 0 then (
        lX6_interfaceMethod_22 t_count t_supertypes m_count m_type m_name m_arity n y2 y3 y4 (y5 + 1))
      else (
        bn (fX8_bit y5) fun v4 =>
        bn (fX6_hasSubtypeIn t_count t_supertypes (y4 &&& (v4 ^^^ (-1))) y5) fun v5 =>
        if v5 = 0 then (
          bn (fX5_declaredBy m_count m_type m_name m_arity y5 y2 y3) fun v8 =>
          some v8)
        else (
          lX6_interfaceMethod_22 t_count t_supertypes m_count m_type m_name m_arity n y2 y3 y4 (y5 + 1)))) := rfl
def fX6_interfaceMethod (t_count : Int32) (t_supertypes : Nat → Int32) (m_count : Int32) (m_type : Nat → Int32) (m_name : Nat → Int32) (m_arity : Nat → Int32) (x1 : Int32) (x2 : Int32) (x3 : Int32) : Option (Int32) :=
  bn (fX5_withSignature m_count m_type m_name m_arity x2 x3 x1) fun v1 =>
  bn (fX5_typesOf m_count m_type v1) fun v3 =>
  lX6_interfaceMethod_22 t_count t_supertypes m_count m_type m_name m_arity 5000 x2 x3 v3 0
def fX6_executedBy (t_count : Int32) (t_interfaceSet : Int32) (t_supertypes : Nat → Int32) (m_count : Int32) (m_type : Nat → Int32) (m_name : Nat → Int32) (m_arity : Nat → Int32) (k_dynamicType : Nat → Int32) (k_target : Nat → Int32) (x1 : Int32) : Option (Int32) :=
  rd 8 k_target x1 fun v1 =>
  rd 16 m_name v1 fun v2 =>
  rd 8 k_target x1 fun v3 =>
  rd 16 m_arity v3 fun v4 =>
  rd 8 k_dynamicType x1 fun v5 =>
  rd 8 t_supertypes v5 fun v6 =>
  bn (fX6_classMethod t_count m_count m_type m_name m_arity (v6 &&& (t_interfaceSet ^^^ (-1))) v2 v4) fun v7 =>
  if v7 = (-9) then (
    bn (fX6_interfaceMethod t_count t_supertypes m_count m_type m_name m_arity (v6 &&& t_interfaceSet) v2 v4) fun v10 =>
    some v10)
  else (
    some v7)
def fX6_clashOf (t_count : Int32) (t_supertypes : Nat → Int32) (m_count : Int32) (m_type : Nat → Int32) (m_name : Nat → Int32) (m_arity : Nat → Int32) (d_method : Int32) (d_family : Int32) (d_count : Int32) : Option (Int32) :=
  bn (fX5_typesOf m_count m_type d_family) fun v1 =>
  bn (fX7_connectedWith t_count t_supertypes v1) fun v3 =>
  rd 16 m_name d_method fun v5 =>
  bn (fX5_withSignature m_count m_type m_name m_arity v5 d_count v3) fun v6 =>
  bn (fX5_smallest m_count (v6 &&& (d_family ^^^ (-1)))) fun v7 =>
  some v7
def jX6_bridgesServe_40 (t_supertypes : Nat → Int32) (k_count : Int32) (k_staticType : Nat → Int32) (k2 : Int32 → Int32 → Int32 → Option (Int32)) (y1 : Int32) (y2 : Int32) (y3 : Int32) (s0 : Int32) : Option (Int32) :=
  bn (fX8_contains y2 y3) fun v1 =>
  if v1 = 0 then (
    k2 y1 y2 (y3 + 1))
  else (
    if s0 = 0 then (
      some 0)
    else (
      k2 y1 y2 (y3 + 1)))
def lX6_bridgesServe_2 (t_supertypes : Nat → Int32) (k_count : Int32) (k_staticType : Nat → Int32) : Nat → Int32 → Int32 → Int32 → Option (Int32)
  | 0, _, _, _ => none
  | n + 1, y1, y2, y3 =>
    if k_count ≤ y3 then (
      some 1)
    else (
      rd 8 k_staticType y3 fun v2 =>
      rd 8 t_supertypes v2 fun v3 =>
      if (v3 &&& y1) = 0 then (
        jX6_bridgesServe_40 t_supertypes k_count k_staticType (fun u1 u2 u3 => lX6_bridgesServe_2 t_supertypes k_count k_staticType n u1 u2 u3) y1 y2 y3 0)
      else (
        jX6_bridgesServe_40 t_supertypes k_count k_staticType (fun u1 u2 u3 => lX6_bridgesServe_2 t_supertypes k_count k_staticType n u1 u2 u3) y1 y2 y3 1))
theorem lX6_bridgesServe_2_s (t_supertypes : Nat → Int32) (k_count : Int32) (k_staticType : Nat → Int32) (n : Nat) (y1 : Int32) (y2 : Int32) (y3 : Int32) : lX6_bridgesServe_2 t_supertypes k_count k_staticType (n + 1) y1 y2 y3 =
    if k_count ≤ y3 then (
      some 1)
    else (
      rd 8 k_staticType y3 fun v2 =>
      rd 8 t_supertypes v2 fun v3 =>
      if (v3 &&& y1) = 0 then (
        jX6_bridgesServe_40 t_supertypes k_count k_staticType (fun u1 u2 u3 => lX6_bridgesServe_2 t_supertypes k_count k_staticType n u1 u2 u3) y1 y2 y3 0)
      else (
        jX6_bridgesServe_40 t_supertypes k_count k_staticType (fun u1 u2 u3 => lX6_bridgesServe_2 t_supertypes k_count k_staticType n u1 u2 u3) y1 y2 y3 1)) := rfl
def fX6_bridgesServe (t_supertypes : Nat → Int32) (k_count : Int32) (k_staticType : Nat → Int32) (x1 : Int32) (x2 : Int32) : Option (Int32) :=
  lX6_bridgesServe_2 t_supertypes k_count k_staticType 5000 x1 x2 0
def jX6_bridgesFor_76 (t_supertypes : Nat → Int32) (m_count : Int32) (m_type : Nat → Int32) (k_count : Int32) (k_frozenSet : Int32) (k_staticType : Nat → Int32) (k_target : Nat → Int32) (k32 : Int32 → Int32 → Int32 → Int32 → Option (Int32)) (y2 : Int32) (y3 : Int32) (y4 : Int32) (y5 : Int32) (y6 : Int32) (s0 : Int32) : Option (Int32) :=
  if y6 = 0 then (
    k32 y2 y3 y4 (y5 + 1))
  else (
    if s0 = 0 then (
      k32 y2 y3 y4 (y5 + 1))
    else (
      bn (fX6_bridgesServe t_supertypes k_count k_staticType y5 y2) fun v3 =>
      if v3 = 0 then (
        k32 y2 y3 y4 (y5 + 1))
      else (
        k32 y2 y3 y5 (y5 + 1))))
def jX6_bridgesFor_56 (t_supertypes : Nat → Int32) (m_count : Int32) (m_type : Nat → Int32) (k_count : Int32) (k_frozenSet : Int32) (k_staticType : Nat → Int32) (k_target : Nat → Int32) (k32 : Int32 → Int32 → Int32 → Int32 → Option (Int32)) (y2 : Int32) (y3 : Int32) (y4 : Int32) (y5 : Int32) (s0 : Int32) : Option (Int32) :=
  bn (fJ6_bitCount_0f7a4 y5) fun v1 =>
  bn (fJ6_bitCount_0f7a4 y4) fun v2 =>
  if v2 ≤ v1 then (
    jX6_bridgesFor_76 t_supertypes m_count m_type k_count k_frozenSet k_staticType k_target k32 y2 y3 y4 y5 s0 0)
  else (
    jX6_bridgesFor_76 t_supertypes m_count m_type k_count k_frozenSet k_staticType k_target k32 y2 y3 y4 y5 s0 1)
def lX6_bridgesFor_32 (t_supertypes : Nat → Int32) (m_count : Int32) (m_type : Nat → Int32) (k_count : Int32) (k_frozenSet : Int32) (k_staticType : Nat → Int32) (k_target : Nat → Int32) : Nat → Int32 → Int32 → Int32 → Int32 → Option (Int32)
  | 0, _, _, _, _ => none
  | n + 1, y2, y3, y4, y5 =>
    bn (fX8_bit 8) fun v1 =>
    if v1 ≤ y5 then (
      some y4)
    else (
      if (y5 &&& (y3 ^^^ (-1))) = 0 then (
        jX6_bridgesFor_56 t_supertypes m_count m_type k_count k_frozenSet k_staticType k_target (fun u2 u3 u4 u5 => lX6_bridgesFor_32 t_supertypes m_count m_type k_count k_frozenSet k_staticType k_target n u2 u3 u4 u5) y2 y3 y4 y5 1)
      else (
        jX6_bridgesFor_56 t_supertypes m_count m_type k_count k_frozenSet k_staticType k_target (fun u2 u3 u4 u5 => lX6_bridgesFor_32 t_supertypes m_count m_type k_count k_frozenSet k_staticType k_target n u2 u3 u4 u5) y2 y3 y4 y5 0))
theorem lX6_bridgesFor_32_s (t_supertypes : Nat → Int32) (m_count : Int32) (m_type : Nat → Int32) (k_count : Int32) (k_frozenSet : Int32) (k_staticType : Nat → Int32) (k_target : Nat → Int32) (n : Nat) (y2 : Int32) (y3 : Int32) (y4 : Int32) (y5 : Int32) : lX6_bridgesFor_32 t_supertypes m_count m_type k_count k_frozenSet k_staticType k_target (n + 1) y2 y3 y4 y5 =
    bn (fX8_bit 8) fun v1 =>
    if v1 ≤ y5 then (
      some y4)
    else (
      if (y5 &&& (y3 ^^^ (-1))) = 0 then (
        jX6_bridgesFor_56 t_supertypes m_count m_type k_count k_frozenSet k_staticType k_target (fun u2 u3 u4 u5 => lX6_bridgesFor_32 t_supertypes m_count m_type k_count k_frozenSet k_staticType k_target n u2 u3 u4 u5) y2 y3 y4 y5 1)
      else (
        jX6_bridgesFor_56 t_supertypes m_count m_type k_count k_frozenSet k_staticType k_target (fun u2 u3 u4 u5 => lX6_bridgesFor_32 t_supertypes m_count m_type k_count k_frozenSet k_staticType k_target n u2 u3 u4 u5) y2 y3 y4 y5 0)) := rfl
def fX6_bridgesFor (t_supertypes : Nat → Int32) (m_count : Int32) (m_type : Nat → Int32) (k_count : Int32) (k_frozenSet : Int32) (k_staticType : Nat → Int32) (k_target : Nat → Int32) (x1 : Int32) : Option (Int32) :=
  bn (fX0_withTargetIn k_count k_target x1) fun v1 =>
  bn (fX5_typesOf m_count m_type x1) fun v3 =>
  lX6_bridgesFor_32 t_supertypes m_count m_type k_count k_frozenSet k_staticType k_target 5000 (v1 &&& k_frozenSet) v3 v3 0
def fX7_exists (t_count : Int32) (x1 : Int32) : Option (Int32) :=
  if x1 < 0 then (
    some 0)
  else (
    if t_count ≤ x1 then (
      some 0)
    else (
      some 1))
def fX7_isClass (t_count : Int32) (t_interfaceSet : Int32) (x1 : Int32) : Option (Int32) :=
  bn (fX7_exists t_count x1) fun v1 =>
  if v1 = 0 then (
    some 0)
  else (
    bn (fX8_contains t_interfaceSet x1) fun v4 =>
    if v4 = 0 then (
      some 1)
    else (
      some 0))
def fX7_areInterfaces (t_interfaceSet : Int32) (x1 : Int32) : Option (Int32) :=
  if (x1 &&& (t_interfaceSet ^^^ (-1))) = 0 then (
    some 1)
  else (
    some 0)
def fX7_allowsSuperclass (t_count : Int32) (t_interfaceSet : Int32) (x1 : Int32) (x2 : Int32) : Option (Int32) :=
  if x2 = (-1) then (
    if x1 = 0 then (
      some 1)
    else (
      if x1 = 1 then (
        some 1)
      else (
        some 0)))
  else (
    if x1 = 0 then (
      bn (fX7_isClass t_count t_interfaceSet x2) fun v3 =>
      if v3 = 0 then (
        some 0)
      else (
        some 1))
    else (
      some 0))
def lX7_inheritedFrom_19 (t_count : Int32) (t_supertypes : Nat → Int32) : Nat → Int32 → Int32 → Int32 → Option (Int32)
  | 0, _, _, _ => none
  | n + 1, y2, y3, y4 =>
    if t_count ≤ y4 then (
      some y3)
    else (
      bn (fX8_contains y2 y4) fun v2 =>
      if v2 = 0 then (
        lX7_inheritedFrom_19 t_count t_supertypes n y2 y3 (y4 + 1))
      else (
        rd 8 t_supertypes y4 fun v4 =>
        lX7_inheritedFrom_19 t_count t_supertypes n y2 (y3 ||| v4) (y4 + 1)))
theorem lX7_inheritedFrom_19_s (t_count : Int32) (t_supertypes : Nat → Int32) (n : Nat) (y2 : Int32) (y3 : Int32) (y4 : Int32) : lX7_inheritedFrom_19 t_count t_supertypes (n + 1) y2 y3 y4 =
    if t_count ≤ y4 then (
      some y3)
    else (
      bn (fX8_contains y2 y4) fun v2 =>
      if v2 = 0 then (
        lX7_inheritedFrom_19 t_count t_supertypes n y2 y3 (y4 + 1))
      else (
        rd 8 t_supertypes y4 fun v4 =>
        lX7_inheritedFrom_19 t_count t_supertypes n y2 (y3 ||| v4) (y4 + 1))) := rfl
def jX7_inheritedFrom_15 (t_count : Int32) (t_supertypes : Nat → Int32) (y2 : Int32) (s0 : Int32) : Option (Int32) :=
  lX7_inheritedFrom_19 t_count t_supertypes 5000 y2 s0 0
def fX7_inheritedFrom (t_count : Int32) (t_supertypes : Nat → Int32) (x1 : Int32) (x2 : Int32) : Option (Int32) :=
  if x1 = (-1) then (
    jX7_inheritedFrom_15 t_count t_supertypes x2 0)
  else (
    rd 8 t_supertypes x1 fun v2 =>
    jX7_inheritedFrom_15 t_count t_supertypes x2 v2)
def jX7_add_35  (t_count : Int32) (t_interfaceSet : Int32) (t_supertypes : Nat → Int32) (y3 : Int32) : Option (Int32 × Int32 × Int32 × (Nat → Int32)) :=
  some (y3, t_count + 1, t_interfaceSet, t_supertypes)
def fX7_add (t_count : Int32) (t_interfaceSet : Int32) (t_supertypes : Nat → Int32) (x1 : Int32) (x2 : Int32) : Option (Int32 × Int32 × Int32 × (Nat → Int32)) :=
  bn (fX8_bit t_count) fun v1 =>
  wr 8 t_supertypes t_count (x2 ||| v1) fun g2 =>
  if x1 = 1 then (
    bn (fX8_bit t_count) fun v4 =>
    jX7_add_35  t_count (t_interfaceSet ||| v4) g2 t_count)
  else (
    jX7_add_35  t_count t_interfaceSet g2 t_count)
def fX3_remember (h_count h_next : Int32) (h_hs : Nat → MS) (t_count : Int32) (t_interfaceSet : Int32) (t_supertypes : Nat → Int32) (m_count : Int32) (m_type : Nat → Int32) (m_name : Nat → Int32) (m_arity : Nat → Int32) (m_keys : Nat → Int32) (m_defaults : Nat → Int32) (k_count : Int32) (k_frozenSet : Int32) (k_staticType : Nat → Int32) (k_dynamicType : Nat → Int32) (k_target : Nat → Int32) (k_argumentCounts : Nat → Int32) (k_temporaryCounts : Nat → Int32) (k_keys : Nat → Int32) (k_kinds : Nat → Int32) (k_values : Nat → Int32) (k_temporaryKinds : Nat → Int32) (k_newKinds : Nat → Int32) (k_newValues : Nat → Int32) : Option (Int32 × Int32 × (Nat → MS)) :=
  if inb h_next 8 = true then some (if (8 : Int32) < h_count + 1 then 8 else h_count + 1, (h_next + 1) - (h_next + 1) / 8 * 8, fun k => if k = h_next.toNatClampNeg then (t_count, t_interfaceSet, t_supertypes, m_count, m_type, m_name, m_arity, m_keys, m_defaults, k_count, k_frozenSet, k_staticType, k_dynamicType, k_target, k_argumentCounts, k_temporaryCounts, k_keys, k_kinds, k_values, k_temporaryKinds, (h_hs k).2.2.2.2.2.2.2.2.2.2.2.2.2.2.2.2.2.2.2.2.1, (h_hs k).2.2.2.2.2.2.2.2.2.2.2.2.2.2.2.2.2.2.2.2.2) else h_hs k) else none
def fX3_goBack (h_count h_next : Int32) (h_hs : Nat → MS) (t_count : Int32) (t_interfaceSet : Int32) (t_supertypes : Nat → Int32) (m_count : Int32) (m_type : Nat → Int32) (m_name : Nat → Int32) (m_arity : Nat → Int32) (m_keys : Nat → Int32) (m_defaults : Nat → Int32) (k_count : Int32) (k_frozenSet : Int32) (k_staticType : Nat → Int32) (k_dynamicType : Nat → Int32) (k_target : Nat → Int32) (k_argumentCounts : Nat → Int32) (k_temporaryCounts : Nat → Int32) (k_keys : Nat → Int32) (k_kinds : Nat → Int32) (k_values : Nat → Int32) (k_temporaryKinds : Nat → Int32) (k_newKinds : Nat → Int32) (k_newValues : Nat → Int32) : Option (Int32 × Int32 × Int32 × Int32 × Int32 × (Nat → Int32) × Int32 × (Nat → Int32) × (Nat → Int32) × (Nat → Int32) × (Nat → Int32) × (Nat → Int32) × Int32 × Int32 × (Nat → Int32) × (Nat → Int32) × (Nat → Int32) × (Nat → Int32) × (Nat → Int32) × (Nat → Int32) × (Nat → Int32) × (Nat → Int32) × (Nat → Int32)) :=
  if inb ((h_next + 8 - 1) - (h_next + 8 - 1) / 8 * 8) 8 = true then some (h_count - 1, h_count - 1, ((h_next + 8 - 1) - (h_next + 8 - 1) / 8 * 8), (h_hs ((h_next + 8 - 1) - (h_next + 8 - 1) / 8 * 8).toNatClampNeg).1, (h_hs ((h_next + 8 - 1) - (h_next + 8 - 1) / 8 * 8).toNatClampNeg).2.1, (h_hs ((h_next + 8 - 1) - (h_next + 8 - 1) / 8 * 8).toNatClampNeg).2.2.1, (h_hs ((h_next + 8 - 1) - (h_next + 8 - 1) / 8 * 8).toNatClampNeg).2.2.2.1, (h_hs ((h_next + 8 - 1) - (h_next + 8 - 1) / 8 * 8).toNatClampNeg).2.2.2.2.1, (h_hs ((h_next + 8 - 1) - (h_next + 8 - 1) / 8 * 8).toNatClampNeg).2.2.2.2.2.1, (h_hs ((h_next + 8 - 1) - (h_next + 8 - 1) / 8 * 8).toNatClampNeg).2.2.2.2.2.2.1, (h_hs ((h_next + 8 - 1) - (h_next + 8 - 1) / 8 * 8).toNatClampNeg).2.2.2.2.2.2.2.1, (h_hs ((h_next + 8 - 1) - (h_next + 8 - 1) / 8 * 8).toNatClampNeg).2.2.2.2.2.2.2.2.1, (h_hs ((h_next + 8 - 1) - (h_next + 8 - 1) / 8 * 8).toNatClampNeg).2.2.2.2.2.2.2.2.2.1, (h_hs ((h_next + 8 - 1) - (h_next + 8 - 1) / 8 * 8).toNatClampNeg).2.2.2.2.2.2.2.2.2.2.1, (h_hs ((h_next + 8 - 1) - (h_next + 8 - 1) / 8 * 8).toNatClampNeg).2.2.2.2.2.2.2.2.2.2.2.1, (h_hs ((h_next + 8 - 1) - (h_next + 8 - 1) / 8 * 8).toNatClampNeg).2.2.2.2.2.2.2.2.2.2.2.2.1, (h_hs ((h_next + 8 - 1) - (h_next + 8 - 1) / 8 * 8).toNatClampNeg).2.2.2.2.2.2.2.2.2.2.2.2.2.1, (h_hs ((h_next + 8 - 1) - (h_next + 8 - 1) / 8 * 8).toNatClampNeg).2.2.2.2.2.2.2.2.2.2.2.2.2.2.1, (h_hs ((h_next + 8 - 1) - (h_next + 8 - 1) / 8 * 8).toNatClampNeg).2.2.2.2.2.2.2.2.2.2.2.2.2.2.2.1, (h_hs ((h_next + 8 - 1) - (h_next + 8 - 1) / 8 * 8).toNatClampNeg).2.2.2.2.2.2.2.2.2.2.2.2.2.2.2.2.1, (h_hs ((h_next + 8 - 1) - (h_next + 8 - 1) / 8 * 8).toNatClampNeg).2.2.2.2.2.2.2.2.2.2.2.2.2.2.2.2.2.1, (h_hs ((h_next + 8 - 1) - (h_next + 8 - 1) / 8 * 8).toNatClampNeg).2.2.2.2.2.2.2.2.2.2.2.2.2.2.2.2.2.2.1, (h_hs ((h_next + 8 - 1) - (h_next + 8 - 1) / 8 * 8).toNatClampNeg).2.2.2.2.2.2.2.2.2.2.2.2.2.2.2.2.2.2.2.1) else none

def fX8_beginEdit (t_count : Int32) (t_interfaceSet : Int32) (t_supertypes : Nat → Int32) (m_count : Int32) (m_type : Nat → Int32) (m_name : Nat → Int32) (m_arity : Nat → Int32) (m_keys : Nat → Int32) (m_defaults : Nat → Int32) (k_count : Int32) (k_frozenSet : Int32) (k_staticType : Nat → Int32) (k_dynamicType : Nat → Int32) (k_target : Nat → Int32) (k_argumentCounts : Nat → Int32) (k_temporaryCounts : Nat → Int32) (k_keys : Nat → Int32) (k_kinds : Nat → Int32) (k_values : Nat → Int32) (k_temporaryKinds : Nat → Int32) (k_newKinds : Nat → Int32) (k_newValues : Nat → Int32) (d_open : Int32) (h_count : Int32) (h_next : Int32) (h_hs : Nat → MS) : Option (Int32 × Int32 × Int32 × (Nat → MS)) :=
  bn3 (fX3_remember h_count h_next h_hs t_count t_interfaceSet t_supertypes m_count m_type m_name m_arity m_keys m_defaults k_count k_frozenSet k_staticType k_dynamicType k_target k_argumentCounts k_temporaryCounts k_keys k_kinds k_values k_temporaryKinds k_newKinds k_newValues) fun g1 g2 g3 =>
  bn (fX1_close d_open) fun g4 =>
  some (g4, g1, g2, g3)
def fX8_declareType (t_count : Int32) (t_interfaceSet : Int32) (t_supertypes : Nat → Int32) (m_count : Int32) (m_type : Nat → Int32) (m_name : Nat → Int32) (m_arity : Nat → Int32) (m_keys : Nat → Int32) (m_defaults : Nat → Int32) (k_count : Int32) (k_frozenSet : Int32) (k_staticType : Nat → Int32) (k_dynamicType : Nat → Int32) (k_target : Nat → Int32) (k_argumentCounts : Nat → Int32) (k_temporaryCounts : Nat → Int32) (k_keys : Nat → Int32) (k_kinds : Nat → Int32) (k_values : Nat → Int32) (k_temporaryKinds : Nat → Int32) (k_newKinds : Nat → Int32) (k_newValues : Nat → Int32) (d_open : Int32) (h_count : Int32) (h_next : Int32) (h_hs : Nat → MS) (x1 : Int32) (x2 : Int32) (x3 : Int32) : Option (Int32 × Int32 × Int32 × (Nat → Int32) × Int32 × Int32 × Int32 × (Nat → MS)) :=
  bn (fX7_allowsSuperclass t_count t_interfaceSet x1 x2) fun v1 =>
  if v1 = 0 then (
    some ((-1), t_count, t_interfaceSet, t_supertypes, d_open, h_count, h_next, h_hs))
  else (
    bn (fX7_areInterfaces t_interfaceSet x3) fun v4 =>
    if v4 = 0 then (
      some ((-1), t_count, t_interfaceSet, t_supertypes, d_open, h_count, h_next, h_hs))
    else (
      bn (fX7_inheritedFrom t_count t_supertypes x2 x3) fun v6 =>
      bn (fX5_disagreeWithin m_count m_type m_name m_arity m_keys m_defaults v6) fun v7 =>
      if v7 = 0 then (
        if t_count < 8 then (
          bn4 (fX8_beginEdit t_count t_interfaceSet t_supertypes m_count m_type m_name m_arity m_keys m_defaults k_count k_frozenSet k_staticType k_dynamicType k_target k_argumentCounts k_temporaryCounts k_keys k_kinds k_values k_temporaryKinds k_newKinds k_newValues d_open h_count h_next h_hs) fun g11 g12 g13 g14 =>
          bn4 (fX7_add t_count t_interfaceSet t_supertypes x1 v6) fun v15 g16 g17 g18 =>
          some (v15, g16, g17, g18, g11, g12, g13, g14))
        else (
          some ((-3), t_count, t_interfaceSet, t_supertypes, d_open, h_count, h_next, h_hs)))
      else (
        some ((-2), t_count, t_interfaceSet, t_supertypes, d_open, h_count, h_next, h_hs))))
def fX8_isSignature  (x0 : Int32) (x1 : Int32) : Option (Int32) :=
  if x0 < 0 then (
    some 0)
  else (
    if 5 < x0 then (
      some 0)
    else (
      if x1 < 0 then (
        some 0)
      else (
        if 5 < x1 then (
          some 0)
        else (
          some 1))))
def fX8_declareMethod (t_count : Int32) (t_interfaceSet : Int32) (t_supertypes : Nat → Int32) (m_count : Int32) (m_type : Nat → Int32) (m_name : Nat → Int32) (m_arity : Nat → Int32) (m_keys : Nat → Int32) (m_defaults : Nat → Int32) (k_count : Int32) (k_frozenSet : Int32) (k_staticType : Nat → Int32) (k_dynamicType : Nat → Int32) (k_target : Nat → Int32) (k_argumentCounts : Nat → Int32) (k_temporaryCounts : Nat → Int32) (k_keys : Nat → Int32) (k_kinds : Nat → Int32) (k_values : Nat → Int32) (k_temporaryKinds : Nat → Int32) (k_newKinds : Nat → Int32) (k_newValues : Nat → Int32) (d_open : Int32) (h_count : Int32) (h_next : Int32) (h_hs : Nat → MS) (x1 : Int32) (x2 : Int32) (x3 : Int32) : Option (Int32 × Int32 × (Nat → Int32) × (Nat → Int32) × (Nat → Int32) × (Nat → Int32) × (Nat → Int32) × Int32 × Int32 × Int32 × (Nat → MS)) :=
  bn (fX7_exists t_count x1) fun v1 =>
  if v1 = 0 then (
    some ((-1), m_count, m_type, m_name, m_arity, m_keys, m_defaults, d_open, h_count, h_next, h_hs))
  else (
    bn (fX8_isSignature x2 x3) fun v4 =>
    if v4 = 0 then (
      some ((-1), m_count, m_type, m_name, m_arity, m_keys, m_defaults, d_open, h_count, h_next, h_hs))
    else (
      bn (fX8_bit x1) fun v6 =>
      bn (fX7_connectedWith t_count t_supertypes v6) fun v7 =>
      bn (fX5_withSignature m_count m_type m_name m_arity x2 x3 v7) fun v8 =>
      bn (fX5_declaredBy m_count m_type m_name m_arity x1 x2 x3) fun v10 =>
      if v10 = (-9) then (
        bn (fX5_agree m_count m_arity m_keys m_defaults v8) fun v12 =>
        if v12 = 0 then (
          some ((-2), m_count, m_type, m_name, m_arity, m_keys, m_defaults, d_open, h_count, h_next, h_hs))
        else (
          if m_count < 16 then (
            bn4 (fX8_beginEdit t_count t_interfaceSet t_supertypes m_count m_type m_name m_arity m_keys m_defaults k_count k_frozenSet k_staticType k_dynamicType k_target k_argumentCounts k_temporaryCounts k_keys k_kinds k_values k_temporaryKinds k_newKinds k_newValues d_open h_count h_next h_hs) fun g15 g16 g17 g18 =>
            bn (fX5_smallest m_count v8) fun v19 =>
            bn7 (fX5_add m_count m_type m_name m_arity m_keys m_defaults x1 x2 x3 v19) fun v21 g22 g23 g24 g25 g26 g27 =>
            some (v21, g22, g23, g24, g25, g26, g27, g15, g16, g17, g18))
          else (
            some ((-3), m_count, m_type, m_name, m_arity, m_keys, m_defaults, d_open, h_count, h_next, h_hs))))
      else (
        some ((-2), m_count, m_type, m_name, m_arity, m_keys, m_defaults, d_open, h_count, h_next, h_hs))))
def fX8_declareCall (t_count : Int32) (t_interfaceSet : Int32) (t_supertypes : Nat → Int32) (m_count : Int32) (m_type : Nat → Int32) (m_name : Nat → Int32) (m_arity : Nat → Int32) (m_keys : Nat → Int32) (m_defaults : Nat → Int32) (k_count : Int32) (k_frozenSet : Int32) (k_staticType : Nat → Int32) (k_dynamicType : Nat → Int32) (k_target : Nat → Int32) (k_argumentCounts : Nat → Int32) (k_temporaryCounts : Nat → Int32) (k_keys : Nat → Int32) (k_kinds : Nat → Int32) (k_values : Nat → Int32) (k_temporaryKinds : Nat → Int32) (k_newKinds : Nat → Int32) (k_newValues : Nat → Int32) (d_open : Int32) (h_count : Int32) (h_next : Int32) (h_hs : Nat → MS) (x1 : Int32) (x2 : Int32) (x3 : Int32) (x4 : Int32) : Option (Int32 × Int32 × (Nat → Int32) × (Nat → Int32) × (Nat → Int32) × (Nat → Int32) × (Nat → Int32) × (Nat → Int32) × (Nat → Int32) × (Nat → Int32) × Int32 × Int32 × Int32 × (Nat → MS)) :=
  bn (fX7_exists t_count x1) fun v1 =>
  if v1 = 0 then (
    some ((-1), k_count, k_staticType, k_dynamicType, k_target, k_argumentCounts, k_temporaryCounts, k_keys, k_kinds, k_values, d_open, h_count, h_next, h_hs))
  else (
    bn (fX7_exists t_count x2) fun v4 =>
    if v4 = 0 then (
      some ((-1), k_count, k_staticType, k_dynamicType, k_target, k_argumentCounts, k_temporaryCounts, k_keys, k_kinds, k_values, d_open, h_count, h_next, h_hs))
    else (
      bn (fX8_isSignature x3 x4) fun v6 =>
      if v6 = 0 then (
        some ((-1), k_count, k_staticType, k_dynamicType, k_target, k_argumentCounts, k_temporaryCounts, k_keys, k_kinds, k_values, d_open, h_count, h_next, h_hs))
      else (
        bn (fX6_targetFor t_supertypes m_count m_type m_name m_arity x1 x3 x4) fun v8 =>
        bn (fX7_isClass t_count t_interfaceSet x2) fun v10 =>
        if v10 = 0 then (
          some ((-2), k_count, k_staticType, k_dynamicType, k_target, k_argumentCounts, k_temporaryCounts, k_keys, k_kinds, k_values, d_open, h_count, h_next, h_hs))
        else (
          bn (fX7_inherits t_supertypes x2 x1) fun v12 =>
          if v12 = 0 then (
            some ((-2), k_count, k_staticType, k_dynamicType, k_target, k_argumentCounts, k_temporaryCounts, k_keys, k_kinds, k_values, d_open, h_count, h_next, h_hs))
          else (
            if v8 = (-9) then (
              some ((-2), k_count, k_staticType, k_dynamicType, k_target, k_argumentCounts, k_temporaryCounts, k_keys, k_kinds, k_values, d_open, h_count, h_next, h_hs))
            else (
              if k_count < 8 then (
                bn4 (fX8_beginEdit t_count t_interfaceSet t_supertypes m_count m_type m_name m_arity m_keys m_defaults k_count k_frozenSet k_staticType k_dynamicType k_target k_argumentCounts k_temporaryCounts k_keys k_kinds k_values k_temporaryKinds k_newKinds k_newValues d_open h_count h_next h_hs) fun g16 g17 g18 g19 =>
                bn10 (fX0_add k_count k_staticType k_dynamicType k_target k_argumentCounts k_temporaryCounts k_keys k_kinds k_values m_arity m_keys x1 x2 v8) fun v20 g21 g22 g23 g24 g25 g26 g27 g28 g29 =>
                some (v20, g21, g22, g23, g24, g25, g26, g27, g28, g29, g16, g17, g18, g19))
              else (
                some ((-3), k_count, k_staticType, k_dynamicType, k_target, k_argumentCounts, k_temporaryCounts, k_keys, k_kinds, k_values, d_open, h_count, h_next, h_hs))))))))
def fX8_isValue  (x0 : Int32) : Option (Int32) :=
  if x0 < (-99) then (
    some 0)
  else (
    if 99 < x0 then (
      some 0)
    else (
      some 1))
def jX8_isExpression_21  (y1 : Int32) : Option (Int32) :=
  if y1 = 0 then (
    some 1)
  else (
    some 0)
def fX8_isExpression  (x0 : Int32) (x1 : Int32) : Option (Int32) :=
  if x0 = 0 then (
    bn (fX8_isValue x1) fun v4 =>
    rb v4)
  else (
    if x0 = 1 then (
      jX8_isExpression_21  x1)
    else (
      if x0 = 2 then (
        jX8_isExpression_21  x1)
      else (
        some 0)))
def fX8_setArgument (t_count : Int32) (t_interfaceSet : Int32) (t_supertypes : Nat → Int32) (m_count : Int32) (m_type : Nat → Int32) (m_name : Nat → Int32) (m_arity : Nat → Int32) (m_keys : Nat → Int32) (m_defaults : Nat → Int32) (k_count : Int32) (k_frozenSet : Int32) (k_staticType : Nat → Int32) (k_dynamicType : Nat → Int32) (k_target : Nat → Int32) (k_argumentCounts : Nat → Int32) (k_temporaryCounts : Nat → Int32) (k_keys : Nat → Int32) (k_kinds : Nat → Int32) (k_values : Nat → Int32) (k_temporaryKinds : Nat → Int32) (k_newKinds : Nat → Int32) (k_newValues : Nat → Int32) (d_open : Int32) (h_count : Int32) (h_next : Int32) (h_hs : Nat → MS) (x1 : Int32) (x2 : Int32) (x3 : Int32) (x4 : Int32) : Option (Int32 × (Nat → Int32) × (Nat → Int32) × Int32 × Int32 × Int32 × (Nat → MS)) :=
  bn (fX0_hasArgument k_count k_argumentCounts x1 x2) fun v1 =>
  if v1 = 0 then (
    some ((-1), k_kinds, k_values, d_open, h_count, h_next, h_hs))
  else (
    bn (fX8_isExpression x3 x4) fun v4 =>
    if v4 = 0 then (
      some ((-1), k_kinds, k_values, d_open, h_count, h_next, h_hs))
    else (
      bn (fX0_kindOf k_kinds x1 x2) fun v6 =>
      bn (fX0_isFrozen k_frozenSet x1) fun v7 =>
      if v7 = 0 then (
        if v6 = 3 then (
          some ((-2), k_kinds, k_values, d_open, h_count, h_next, h_hs))
        else (
          bn4 (fX8_beginEdit t_count t_interfaceSet t_supertypes m_count m_type m_name m_arity m_keys m_defaults k_count k_frozenSet k_staticType k_dynamicType k_target k_argumentCounts k_temporaryCounts k_keys k_kinds k_values k_temporaryKinds k_newKinds k_newValues d_open h_count h_next h_hs) fun g10 g11 g12 g13 =>
          bn2 (fX0_putArgument k_kinds k_values x1 x2 x3 x4) fun g14 g15 =>
          some (v6, g14, g15, g10, g11, g12, g13)))
      else (
        some ((-2), k_kinds, k_values, d_open, h_count, h_next, h_hs))))
def jX8_setFrozen_72 (t_count : Int32) (t_interfaceSet : Int32) (t_supertypes : Nat → Int32) (m_count : Int32) (m_type : Nat → Int32) (m_name : Nat → Int32) (m_arity : Nat → Int32) (m_keys : Nat → Int32) (m_defaults : Nat → Int32) (k_count : Int32) (k_staticType : Nat → Int32) (k_dynamicType : Nat → Int32) (k_target : Nat → Int32) (k_argumentCounts : Nat → Int32) (k_temporaryCounts : Nat → Int32) (k_keys : Nat → Int32) (k_kinds : Nat → Int32) (k_values : Nat → Int32) (k_temporaryKinds : Nat → Int32) (k_newKinds : Nat → Int32) (k_newValues : Nat → Int32) (k_frozenSet : Int32) (d_open : Int32) (h_count : Int32) (h_next : Int32) (h_hs : Nat → MS) (y1 : Int32) : Option (Int32 × Int32 × Int32 × Int32 × Int32 × (Nat → MS)) :=
  bn4 (fX8_beginEdit t_count t_interfaceSet t_supertypes m_count m_type m_name m_arity m_keys m_defaults k_count k_frozenSet k_staticType k_dynamicType k_target k_argumentCounts k_temporaryCounts k_keys k_kinds k_values k_temporaryKinds k_newKinds k_newValues d_open h_count h_next h_hs) fun g1 g2 g3 g4 =>
  bn (fX8_bit y1) fun v5 =>
  bn (fJ6_bitCount_0f7a4 (k_frozenSet ^^^ v5)) fun v6 =>
  some (v6, k_frozenSet ^^^ v5, g1, g2, g3, g4)
def jX8_setFrozen_37 (t_count : Int32) (t_interfaceSet : Int32) (t_supertypes : Nat → Int32) (m_count : Int32) (m_type : Nat → Int32) (m_name : Nat → Int32) (m_arity : Nat → Int32) (m_keys : Nat → Int32) (m_defaults : Nat → Int32) (k_count : Int32) (k_staticType : Nat → Int32) (k_dynamicType : Nat → Int32) (k_target : Nat → Int32) (k_argumentCounts : Nat → Int32) (k_temporaryCounts : Nat → Int32) (k_keys : Nat → Int32) (k_kinds : Nat → Int32) (k_values : Nat → Int32) (k_temporaryKinds : Nat → Int32) (k_newKinds : Nat → Int32) (k_newValues : Nat → Int32) (k_frozenSet : Int32) (d_open : Int32) (h_count : Int32) (h_next : Int32) (h_hs : Nat → MS) (y1 : Int32) (s0 : Int32) : Option (Int32 × Int32 × Int32 × Int32 × Int32 × (Nat → MS)) :=
  bn (fX0_isFrozen k_frozenSet y1) fun v1 =>
  if v1 = s0 then (
    some ((-2), k_frozenSet, d_open, h_count, h_next, h_hs))
  else (
    if s0 = 0 then (
      bn (fX0_fitsTarget k_target k_argumentCounts k_keys m_arity m_keys y1) fun v5 =>
      if v5 = 0 then (
        some ((-2), k_frozenSet, d_open, h_count, h_next, h_hs))
      else (
        jX8_setFrozen_72 t_count t_interfaceSet t_supertypes m_count m_type m_name m_arity m_keys m_defaults k_count k_staticType k_dynamicType k_target k_argumentCounts k_temporaryCounts k_keys k_kinds k_values k_temporaryKinds k_newKinds k_newValues k_frozenSet d_open h_count h_next h_hs y1))
    else (
      jX8_setFrozen_72 t_count t_interfaceSet t_supertypes m_count m_type m_name m_arity m_keys m_defaults k_count k_staticType k_dynamicType k_target k_argumentCounts k_temporaryCounts k_keys k_kinds k_values k_temporaryKinds k_newKinds k_newValues k_frozenSet d_open h_count h_next h_hs y1))
def jX8_setFrozen_27 (t_count : Int32) (t_interfaceSet : Int32) (t_supertypes : Nat → Int32) (m_count : Int32) (m_type : Nat → Int32) (m_name : Nat → Int32) (m_arity : Nat → Int32) (m_keys : Nat → Int32) (m_defaults : Nat → Int32) (k_count : Int32) (k_staticType : Nat → Int32) (k_dynamicType : Nat → Int32) (k_target : Nat → Int32) (k_argumentCounts : Nat → Int32) (k_temporaryCounts : Nat → Int32) (k_keys : Nat → Int32) (k_kinds : Nat → Int32) (k_values : Nat → Int32) (k_temporaryKinds : Nat → Int32) (k_newKinds : Nat → Int32) (k_newValues : Nat → Int32) (k_frozenSet : Int32) (d_open : Int32) (h_count : Int32) (h_next : Int32) (h_hs : Nat → MS) (y1 : Int32) (y2 : Int32) : Option (Int32 × Int32 × Int32 × Int32 × Int32 × (Nat → MS)) :=
  if y2 = 1 then (
    jX8_setFrozen_37 t_count t_interfaceSet t_supertypes m_count m_type m_name m_arity m_keys m_defaults k_count k_staticType k_dynamicType k_target k_argumentCounts k_temporaryCounts k_keys k_kinds k_values k_temporaryKinds k_newKinds k_newValues k_frozenSet d_open h_count h_next h_hs y1 1)
  else (
    jX8_setFrozen_37 t_count t_interfaceSet t_supertypes m_count m_type m_name m_arity m_keys m_defaults k_count k_staticType k_dynamicType k_target k_argumentCounts k_temporaryCounts k_keys k_kinds k_values k_temporaryKinds k_newKinds k_newValues k_frozenSet d_open h_count h_next h_hs y1 0)
def fX8_setFrozen (t_count : Int32) (t_interfaceSet : Int32) (t_supertypes : Nat → Int32) (m_count : Int32) (m_type : Nat → Int32) (m_name : Nat → Int32) (m_arity : Nat → Int32) (m_keys : Nat → Int32) (m_defaults : Nat → Int32) (k_count : Int32) (k_frozenSet : Int32) (k_staticType : Nat → Int32) (k_dynamicType : Nat → Int32) (k_target : Nat → Int32) (k_argumentCounts : Nat → Int32) (k_temporaryCounts : Nat → Int32) (k_keys : Nat → Int32) (k_kinds : Nat → Int32) (k_values : Nat → Int32) (k_temporaryKinds : Nat → Int32) (k_newKinds : Nat → Int32) (k_newValues : Nat → Int32) (d_open : Int32) (h_count : Int32) (h_next : Int32) (h_hs : Nat → MS) (x1 : Int32) (x2 : Int32) : Option (Int32 × Int32 × Int32 × Int32 × Int32 × (Nat → MS)) :=
  bn (fX0_exists k_count x1) fun v1 =>
  if v1 = 0 then (
    some ((-1), k_frozenSet, d_open, h_count, h_next, h_hs))
  else (
    if x2 = 0 then (
      jX8_setFrozen_27 t_count t_interfaceSet t_supertypes m_count m_type m_name m_arity m_keys m_defaults k_count k_staticType k_dynamicType k_target k_argumentCounts k_temporaryCounts k_keys k_kinds k_values k_temporaryKinds k_newKinds k_newValues k_frozenSet d_open h_count h_next h_hs x1 x2)
    else (
      if x2 = 1 then (
        jX8_setFrozen_27 t_count t_interfaceSet t_supertypes m_count m_type m_name m_arity m_keys m_defaults k_count k_staticType k_dynamicType k_target k_argumentCounts k_temporaryCounts k_keys k_kinds k_values k_temporaryKinds k_newKinds k_newValues k_frozenSet d_open h_count h_next h_hs x1 x2)
      else (
        some ((-1), k_frozenSet, d_open, h_count, h_next, h_hs))))
def fX8_typeCount (t_count : Int32) : Option (Int32) :=
  some t_count
def fX8_isSubtype (t_count : Int32) (t_supertypes : Nat → Int32) (x1 : Int32) (x2 : Int32) : Option (Int32) :=
  bn (fX7_exists t_count x1) fun v1 =>
  if v1 = 0 then (
    some (-1))
  else (
    bn (fX7_exists t_count x2) fun v4 =>
    if v4 = 0 then (
      some (-1))
    else (
      bn (fX7_inherits t_supertypes x1 x2) fun v6 =>
      if v6 = 0 then (
        some 0)
      else (
        some 1)))
def fX8_family (t_count : Int32) (t_supertypes : Nat → Int32) (m_count : Int32) (m_type : Nat → Int32) (m_name : Nat → Int32) (m_arity : Nat → Int32) (x1 : Int32) : Option (Int32) :=
  bn (fX5_exists m_count x1) fun v1 =>
  if v1 = 0 then (
    some (-1))
  else (
    bn (fX6_familyOf t_count t_supertypes m_count m_type m_name m_arity x1) fun v4 =>
    some v4)
def fX8_parameterCount (m_count : Int32) (m_arity : Nat → Int32) (x1 : Int32) : Option (Int32) :=
  bn (fX5_exists m_count x1) fun v1 =>
  if v1 = 0 then (
    some (-1))
  else (
    rd 16 m_arity x1 fun v4 =>
    some v4)
def fX8_parameterKey (m_count : Int32) (m_arity : Nat → Int32) (m_keys : Nat → Int32) (x1 : Int32) (x2 : Int32) : Option (Int32) :=
  bn (fX5_exists m_count x1) fun v1 =>
  if v1 = 0 then (
    some (-1))
  else (
    if x2 < 0 then (
      some (-1))
    else (
      rd 16 m_arity x1 fun v5 =>
      if x2 < v5 then (
        bn (fX5_keyOf m_keys x1 x2) fun v7 =>
        some v7)
      else (
        some (-1))))
def fX8_dispatch (t_count : Int32) (t_interfaceSet : Int32) (t_supertypes : Nat → Int32) (m_count : Int32) (m_type : Nat → Int32) (m_name : Nat → Int32) (m_arity : Nat → Int32) (k_count : Int32) (k_dynamicType : Nat → Int32) (k_target : Nat → Int32) (x1 : Int32) : Option (Int32) :=
  bn (fX0_exists k_count x1) fun v1 =>
  if v1 = 0 then (
    some (-1))
  else (
    bn (fX6_executedBy t_count t_interfaceSet t_supertypes m_count m_type m_name m_arity k_dynamicType k_target x1) fun v4 =>
    some v4)
def fX8_run (t_count : Int32) (t_interfaceSet : Int32) (t_supertypes : Nat → Int32) (m_count : Int32) (m_type : Nat → Int32) (m_name : Nat → Int32) (m_arity : Nat → Int32) (m_keys : Nat → Int32) (m_defaults : Nat → Int32) (k_count : Int32) (k_dynamicType : Nat → Int32) (k_target : Nat → Int32) (k_argumentCounts : Nat → Int32) (k_temporaryCounts : Nat → Int32) (k_keys : Nat → Int32) (k_kinds : Nat → Int32) (k_values : Nat → Int32) (k_temporaryKinds : Nat → Int32) (e_counter : Int32) (e_temporaries : Nat → Int32) (e_arguments : Nat → Int32) (x1 : Int32) : Option (Int32 × Int32 × (Nat → Int32) × (Nat → Int32)) :=
  bn (fX0_exists k_count x1) fun v1 =>
  if v1 = 0 then (
    some (0, e_counter, e_temporaries, e_arguments))
  else (
    bn (fX6_executedBy t_count t_interfaceSet t_supertypes m_count m_type m_name m_arity k_dynamicType k_target x1) fun v4 =>
    if v4 = (-9) then (
      some (0, e_counter, e_temporaries, e_arguments))
    else (
      bn3 (fX2_evaluate e_counter e_temporaries e_arguments k_argumentCounts k_temporaryCounts k_kinds k_values k_temporaryKinds x1) fun g7 g8 g9 =>
      bn (fX2_resultOf g9 m_type m_arity m_keys m_defaults k_argumentCounts k_keys v4 x1) fun v10 =>
      some (v10, g7, g8, g9)))
def fX8_ticks (k_count : Int32) (k_argumentCounts : Nat → Int32) (k_temporaryCounts : Nat → Int32) (k_kinds : Nat → Int32) (k_values : Nat → Int32) (k_temporaryKinds : Nat → Int32) (e_counter : Int32) (e_temporaries : Nat → Int32) (e_arguments : Nat → Int32) (x1 : Int32) : Option (Int32 × Int32 × (Nat → Int32) × (Nat → Int32)) :=
  bn (fX0_exists k_count x1) fun v1 =>
  if v1 = 0 then (
    some ((-1), e_counter, e_temporaries, e_arguments))
  else (
    bn3 (fX2_evaluate e_counter e_temporaries e_arguments k_argumentCounts k_temporaryCounts k_kinds k_values k_temporaryKinds x1) fun g4 g5 g6 =>
    some (g4, g4, g5, g6))
def fX8_argumentCount (k_count : Int32) (k_argumentCounts : Nat → Int32) (x1 : Int32) : Option (Int32) :=
  bn (fX0_exists k_count x1) fun v1 =>
  if v1 = 0 then (
    some (-1))
  else (
    rd 8 k_argumentCounts x1 fun v4 =>
    some v4)
def fX8_argumentKind (k_count : Int32) (k_argumentCounts : Nat → Int32) (k_kinds : Nat → Int32) (x1 : Int32) (x2 : Int32) : Option (Int32) :=
  bn (fX0_hasArgument k_count k_argumentCounts x1 x2) fun v1 =>
  if v1 = 0 then (
    some (-1))
  else (
    bn (fX0_kindOf k_kinds x1 x2) fun v4 =>
    some v4)
def fX8_temporaryCount (k_count : Int32) (k_temporaryCounts : Nat → Int32) (x1 : Int32) : Option (Int32) :=
  bn (fX0_exists k_count x1) fun v1 =>
  if v1 = 0 then (
    some (-1))
  else (
    rd 8 k_temporaryCounts x1 fun v4 =>
    some v4)
def fX8_startChange (t_count : Int32) (t_supertypes : Nat → Int32) (m_count : Int32) (m_type : Nat → Int32) (m_name : Nat → Int32) (m_arity : Nat → Int32) (m_keys : Nat → Int32) (d_open : Int32) (d_method : Int32) (d_family : Int32) (d_oldCount : Int32) (d_keptSet : Int32) (d_count : Int32) (d_usedKeys : Int32) (x1 : Int32) : Option (Int32 × Int32 × Int32 × Int32 × Int32 × Int32 × Int32 × Int32) :=
  bn (fX5_exists m_count x1) fun v1 =>
  if v1 = 0 then (
    some ((-1), d_open, d_method, d_family, d_oldCount, d_keptSet, d_count, d_usedKeys))
  else (
    bn (fX6_familyOf t_count t_supertypes m_count m_type m_name m_arity x1) fun v4 =>
    bn7 (fX1_start d_open d_method d_family d_oldCount d_keptSet d_count d_usedKeys m_arity m_keys x1 v4) fun g6 g7 g8 g9 g10 g11 g12 =>
    bn (fJ6_bitCount_0f7a4 v4) fun v13 =>
    some (v13, g6, g7, g8, g9, g10, g11, g12))
def fX8_keepParameter (m_keys : Nat → Int32) (m_defaults : Nat → Int32) (d_open : Int32) (d_method : Int32) (d_oldCount : Int32) (d_keptSet : Int32) (d_count : Int32) (d_sources : Nat → Int32) (d_keys : Nat → Int32) (d_defaults : Nat → Int32) (x1 : Int32) : Option (Int32 × Int32 × Int32 × (Nat → Int32) × (Nat → Int32) × (Nat → Int32)) :=
  if d_open = 0 then (
    some ((-2), d_keptSet, d_count, d_sources, d_keys, d_defaults))
  else (
    if x1 < 0 then (
      some ((-1), d_keptSet, d_count, d_sources, d_keys, d_defaults))
    else (
      if x1 < d_oldCount then (
        bn (fX8_contains d_keptSet x1) fun v4 =>
        if v4 = 0 then (
          if d_count < 5 then (
            bn6 (fX1_keep d_method d_keptSet d_count d_sources d_keys d_defaults m_keys m_defaults x1) fun v7 g8 g9 g10 g11 g12 =>
            some (v7, g8, g9, g10, g11, g12))
          else (
            some ((-3), d_keptSet, d_count, d_sources, d_keys, d_defaults)))
        else (
          some ((-2), d_keptSet, d_count, d_sources, d_keys, d_defaults)))
      else (
        some ((-1), d_keptSet, d_count, d_sources, d_keys, d_defaults))))
def fX8_insertParameter (d_open : Int32) (d_count : Int32) (d_sources : Nat → Int32) (d_keys : Nat → Int32) (d_defaults : Nat → Int32) (d_usedKeys : Int32) (x1 : Int32) : Option (Int32 × Int32 × (Nat → Int32) × (Nat → Int32) × (Nat → Int32) × Int32) :=
  bn (fX8_isValue x1) fun v1 =>
  if v1 = 0 then (
    some ((-1), d_count, d_sources, d_keys, d_defaults, d_usedKeys))
  else (
    if d_open = 0 then (
      some ((-2), d_count, d_sources, d_keys, d_defaults, d_usedKeys))
    else (
      if d_count < 5 then (
        bn6 (fX1_insert d_count d_sources d_keys d_defaults d_usedKeys x1) fun v5 g6 g7 g8 g9 g10 =>
        some (v5, g6, g7, g8, g9, g10))
      else (
        some ((-3), d_count, d_sources, d_keys, d_defaults, d_usedKeys))))
def fX8_clashingMethod (t_count : Int32) (t_supertypes : Nat → Int32) (m_count : Int32) (m_type : Nat → Int32) (m_name : Nat → Int32) (m_arity : Nat → Int32) (d_open : Int32) (d_method : Int32) (d_family : Int32) (d_count : Int32) : Option (Int32) :=
  if d_open = 0 then (
    some (-2))
  else (
    bn (fX6_clashOf t_count t_supertypes m_count m_type m_name m_arity d_method d_family d_count) fun v2 =>
    some v2)
def fX8_rewrittenCalls (k_count : Int32) (k_frozenSet : Int32) (k_target : Nat → Int32) (d_family : Int32) : Option (Int32) :=
  bn (fX0_withTargetIn k_count k_target d_family) fun v1 =>
  some (v1 &&& (k_frozenSet ^^^ (-1)))
def fX8_hoistedArguments (k_count : Int32) (k_frozenSet : Int32) (k_target : Nat → Int32) (k_argumentCounts : Nat → Int32) (k_kinds : Nat → Int32) (d_open : Int32) (d_family : Int32) (d_keptSet : Int32) (d_count : Int32) (d_sources : Nat → Int32) (g_count : Int32) (g_kept : Int32) (g_kinds : Nat → Int32) (g_positions : Nat → Int32) (x1 : Int32) : Option (Int32 × Int32 × Int32 × (Nat → Int32) × (Nat → Int32)) :=
  bn (fX0_exists k_count x1) fun v1 =>
  if v1 = 0 then (
    some ((-1), g_count, g_kept, g_kinds, g_positions))
  else (
    if d_open = 0 then (
      some ((-2), g_count, g_kept, g_kinds, g_positions))
    else (
      bn (fX8_rewrittenCalls k_count k_frozenSet k_target d_family) fun v5 =>
      bn (fX8_contains v5 x1) fun v7 =>
      if v7 = 0 then (
        some (0, g_count, g_kept, g_kinds, g_positions))
      else (
        bn5 (fX4_choose g_count g_kept g_kinds g_positions k_argumentCounts k_kinds d_keptSet d_count d_sources x1) fun v9 g10 g11 g12 g13 =>
        some (v9, g10, g11, g12, g13))))
def fX8_bridgeTypes (t_supertypes : Nat → Int32) (m_count : Int32) (m_type : Nat → Int32) (k_count : Int32) (k_frozenSet : Int32) (k_staticType : Nat → Int32) (k_target : Nat → Int32) (d_open : Int32) (d_family : Int32) : Option (Int32) :=
  if d_open = 0 then (
    some (-2))
  else (
    bn (fX6_bridgesFor t_supertypes m_count m_type k_count k_frozenSet k_staticType k_target d_family) fun v2 =>
    some v2)
def jX8_breaksFrozenCall_36 (k_count : Int32) (k_frozenSet : Int32) (k_target : Nat → Int32) (d_family : Int32) (d_oldCount : Int32) (d_count : Int32) (d_sources : Nat → Int32) (s0 : Int32) : Option (Int32) :=
  if s0 = 0 then (
    some 0)
  else (
    if d_count = d_oldCount then (
      bn (fX1_keepsWholeList d_oldCount d_count d_sources) fun v3 =>
      if v3 = 0 then (
        some 1)
      else (
        some 0))
    else (
      some 0))
def fX8_breaksFrozenCall (k_count : Int32) (k_frozenSet : Int32) (k_target : Nat → Int32) (d_family : Int32) (d_oldCount : Int32) (d_count : Int32) (d_sources : Nat → Int32) : Option (Int32) :=
  bn (fX0_withTargetIn k_count k_target d_family) fun v1 =>
  if (v1 &&& k_frozenSet) = 0 then (
    jX8_breaksFrozenCall_36 k_count k_frozenSet k_target d_family d_oldCount d_count d_sources 0)
  else (
    jX8_breaksFrozenCall_36 k_count k_frozenSet k_target d_family d_oldCount d_count d_sources 1)
def lX8_chooseHoisted_10 (k_count : Int32) (k_argumentCounts : Nat → Int32) (k_temporaryCounts : Nat → Int32) (k_kinds : Nat → Int32) (d_keptSet : Int32) (d_count : Int32) (d_sources : Nat → Int32) : Nat → (Nat → Int32) → (Int32) → (Int32) → (Nat → Int32) → (Nat → Int32) → Int32 → Int32 → Option (Int32 × (Nat → Int32) × Int32 × Int32 × (Nat → Int32) × (Nat → Int32))
  | 0, _, _, _, _, _, _, _ => none
  | n + 1, x_hoistedOfCall, g_count, g_kept, g_kinds, g_positions, y1, y3 =>
    if k_count ≤ y3 then (
      some (1, x_hoistedOfCall, g_count, g_kept, g_kinds, g_positions))
    else (
      bn (fX8_contains y1 y3) fun v2 =>
      if v2 = 0 then (
        lX8_chooseHoisted_10 k_count k_argumentCounts k_temporaryCounts k_kinds d_keptSet d_count d_sources n x_hoistedOfCall g_count g_kept g_kinds g_positions y1 (y3 + 1))
      else (
        bn5 (fX4_choose g_count g_kept g_kinds g_positions k_argumentCounts k_kinds d_keptSet d_count d_sources y3) fun v4 g5 g6 g7 g8 =>
        rd 8 k_temporaryCounts y3 fun v9 =>
        bn (fJ6_bitCount_0f7a4 v4) fun v10 =>
        if (v9 + v10) ≤ 8 then (
          wr 8 x_hoistedOfCall y3 v4 fun g12 =>
          lX8_chooseHoisted_10 k_count k_argumentCounts k_temporaryCounts k_kinds d_keptSet d_count d_sources n g12 g5 g6 g7 g8 y1 (y3 + 1))
        else (
          some (0, x_hoistedOfCall, g5, g6, g7, g8))))
theorem lX8_chooseHoisted_10_s (k_count : Int32) (k_argumentCounts : Nat → Int32) (k_temporaryCounts : Nat → Int32) (k_kinds : Nat → Int32) (d_keptSet : Int32) (d_count : Int32) (d_sources : Nat → Int32) (n : Nat) (x_hoistedOfCall : Nat → Int32) (g_count : Int32) (g_kept : Int32) (g_kinds : Nat → Int32) (g_positions : Nat → Int32) (y1 : Int32) (y3 : Int32) : lX8_chooseHoisted_10 k_count k_argumentCounts k_temporaryCounts k_kinds d_keptSet d_count d_sources (n + 1) x_hoistedOfCall g_count g_kept g_kinds g_positions y1 y3 =
    if k_count ≤ y3 then (
      some (1, x_hoistedOfCall, g_count, g_kept, g_kinds, g_positions))
    else (
      bn (fX8_contains y1 y3) fun v2 =>
      if v2 = 0 then (
        lX8_chooseHoisted_10 k_count k_argumentCounts k_temporaryCounts k_kinds d_keptSet d_count d_sources n x_hoistedOfCall g_count g_kept g_kinds g_positions y1 (y3 + 1))
      else (
        bn5 (fX4_choose g_count g_kept g_kinds g_positions k_argumentCounts k_kinds d_keptSet d_count d_sources y3) fun v4 g5 g6 g7 g8 =>
        rd 8 k_temporaryCounts y3 fun v9 =>
        bn (fJ6_bitCount_0f7a4 v4) fun v10 =>
        if (v9 + v10) ≤ 8 then (
          wr 8 x_hoistedOfCall y3 v4 fun g12 =>
          lX8_chooseHoisted_10 k_count k_argumentCounts k_temporaryCounts k_kinds d_keptSet d_count d_sources n g12 g5 g6 g7 g8 y1 (y3 + 1))
        else (
          some (0, x_hoistedOfCall, g5, g6, g7, g8)))) := rfl
def fX8_chooseHoisted (x_hoistedOfCall : Nat → Int32) (k_count : Int32) (k_argumentCounts : Nat → Int32) (k_temporaryCounts : Nat → Int32) (k_kinds : Nat → Int32) (d_keptSet : Int32) (d_count : Int32) (d_sources : Nat → Int32) (g_count : Int32) (g_kept : Int32) (g_kinds : Nat → Int32) (g_positions : Nat → Int32) (x1 : Int32) : Option (Int32 × (Nat → Int32) × Int32 × Int32 × (Nat → Int32) × (Nat → Int32)) :=
  lX8_chooseHoisted_10 k_count k_argumentCounts k_temporaryCounts k_kinds d_keptSet d_count d_sources 5000 x_hoistedOfCall g_count g_kept g_kinds g_positions x1 0
def fX8_applyChange (x_hoistedOfCall : Nat → Int32) (t_count : Int32) (t_interfaceSet : Int32) (t_supertypes : Nat → Int32) (m_count : Int32) (m_type : Nat → Int32) (m_name : Nat → Int32) (m_arity : Nat → Int32) (m_keys : Nat → Int32) (m_defaults : Nat → Int32) (k_count : Int32) (k_frozenSet : Int32) (k_staticType : Nat → Int32) (k_dynamicType : Nat → Int32) (k_target : Nat → Int32) (k_argumentCounts : Nat → Int32) (k_temporaryCounts : Nat → Int32) (k_keys : Nat → Int32) (k_kinds : Nat → Int32) (k_values : Nat → Int32) (k_temporaryKinds : Nat → Int32) (k_newKinds : Nat → Int32) (k_newValues : Nat → Int32) (d_open : Int32) (d_method : Int32) (d_family : Int32) (d_oldCount : Int32) (d_keptSet : Int32) (d_count : Int32) (d_sources : Nat → Int32) (d_keys : Nat → Int32) (d_defaults : Nat → Int32) (h_count : Int32) (h_next : Int32) (h_hs : Nat → MS) (g_count : Int32) (g_kept : Int32) (g_kinds : Nat → Int32) (g_positions : Nat → Int32) : Option (Int32 × (Nat → Int32) × (Nat → Int32) × (Nat → Int32) × (Nat → Int32) × (Nat → Int32) × (Nat → Int32) × (Nat → Int32) × (Nat → Int32) × (Nat → Int32) × (Nat → Int32) × (Nat → Int32) × (Nat → Int32) × Int32 × Int32 × Int32 × (Nat → MS) × Int32 × Int32 × (Nat → Int32) × (Nat → Int32)) :=
  if d_open = 0 then (
    some ((-2), x_hoistedOfCall, m_arity, m_keys, m_defaults, k_argumentCounts, k_temporaryCounts, k_keys, k_kinds, k_values, k_temporaryKinds, k_newKinds, k_newValues, d_open, h_count, h_next, h_hs, g_count, g_kept, g_kinds, g_positions))
  else (
    bn (fX6_clashOf t_count t_supertypes m_count m_type m_name m_arity d_method d_family d_count) fun v2 =>
    if v2 = (-9) then (
      bn (fX8_breaksFrozenCall k_count k_frozenSet k_target d_family d_oldCount d_count d_sources) fun v5 =>
      if v5 = 0 then (
        bn (fX8_rewrittenCalls k_count k_frozenSet k_target d_family) fun v8 =>
        bn6 (fX8_chooseHoisted x_hoistedOfCall k_count k_argumentCounts k_temporaryCounts k_kinds d_keptSet d_count d_sources g_count g_kept g_kinds g_positions v8) fun v9 g10 g11 g12 g13 g14 =>
        if v9 = 0 then (
          some ((-3), g10, m_arity, m_keys, m_defaults, k_argumentCounts, k_temporaryCounts, k_keys, k_kinds, k_values, k_temporaryKinds, k_newKinds, k_newValues, d_open, h_count, h_next, h_hs, g11, g12, g13, g14))
        else (
          bn3 (fX3_remember h_count h_next h_hs t_count t_interfaceSet t_supertypes m_count m_type m_name m_arity m_keys m_defaults k_count k_frozenSet k_staticType k_dynamicType k_target k_argumentCounts k_temporaryCounts k_keys k_kinds k_values k_temporaryKinds k_newKinds k_newValues) fun g16 g17 g18 =>
          bn8 (fX0_rewrite k_count k_argumentCounts k_temporaryCounts k_keys k_kinds k_values k_temporaryKinds k_newKinds k_newValues g10 d_count d_sources d_keys d_defaults v8) fun g19 g20 g21 g22 g23 g24 g25 g26 =>
          bn3 (fX5_replaceParameters m_count m_arity m_keys m_defaults d_family d_count d_keys d_defaults) fun g27 g28 g29 =>
          bn (fX1_close d_open) fun g30 =>
          bn (fJ6_bitCount_0f7a4 v8) fun v31 =>
          some (v31, g10, g27, g28, g29, g19, g20, g21, g22, g23, g24, g25, g26, g30, g16, g17, g18, g11, g12, g13, g14)))
      else (
        some ((-2), x_hoistedOfCall, m_arity, m_keys, m_defaults, k_argumentCounts, k_temporaryCounts, k_keys, k_kinds, k_values, k_temporaryKinds, k_newKinds, k_newValues, d_open, h_count, h_next, h_hs, g_count, g_kept, g_kinds, g_positions)))
    else (
      some ((-2), x_hoistedOfCall, m_arity, m_keys, m_defaults, k_argumentCounts, k_temporaryCounts, k_keys, k_kinds, k_values, k_temporaryKinds, k_newKinds, k_newValues, d_open, h_count, h_next, h_hs, g_count, g_kept, g_kinds, g_positions)))
def fX8_undo (t_count : Int32) (t_interfaceSet : Int32) (t_supertypes : Nat → Int32) (m_count : Int32) (m_type : Nat → Int32) (m_name : Nat → Int32) (m_arity : Nat → Int32) (m_keys : Nat → Int32) (m_defaults : Nat → Int32) (k_count : Int32) (k_frozenSet : Int32) (k_staticType : Nat → Int32) (k_dynamicType : Nat → Int32) (k_target : Nat → Int32) (k_argumentCounts : Nat → Int32) (k_temporaryCounts : Nat → Int32) (k_keys : Nat → Int32) (k_kinds : Nat → Int32) (k_values : Nat → Int32) (k_temporaryKinds : Nat → Int32) (k_newKinds : Nat → Int32) (k_newValues : Nat → Int32) (d_open : Int32) (h_count : Int32) (h_next : Int32) (h_hs : Nat → MS) : Option (Int32 × Int32 × Int32 × (Nat → Int32) × Int32 × (Nat → Int32) × (Nat → Int32) × (Nat → Int32) × (Nat → Int32) × (Nat → Int32) × Int32 × Int32 × (Nat → Int32) × (Nat → Int32) × (Nat → Int32) × (Nat → Int32) × (Nat → Int32) × (Nat → Int32) × (Nat → Int32) × (Nat → Int32) × (Nat → Int32) × Int32 × Int32 × Int32) :=
  if h_count = 0 then (
    some ((-2), t_count, t_interfaceSet, t_supertypes, m_count, m_type, m_name, m_arity, m_keys, m_defaults, k_count, k_frozenSet, k_staticType, k_dynamicType, k_target, k_argumentCounts, k_temporaryCounts, k_keys, k_kinds, k_values, k_temporaryKinds, d_open, h_count, h_next))
  else (
    bn (fX1_close d_open) fun g2 =>
    bn23 (fX3_goBack h_count h_next h_hs t_count t_interfaceSet t_supertypes m_count m_type m_name m_arity m_keys m_defaults k_count k_frozenSet k_staticType k_dynamicType k_target k_argumentCounts k_temporaryCounts k_keys k_kinds k_values k_temporaryKinds k_newKinds k_newValues) fun v3 g4 g5 g6 g7 g8 g9 g10 g11 g12 g13 g14 g15 g16 g17 g18 g19 g20 g21 g22 g23 g24 g25 =>
    some (v3, g6, g7, g8, g9, g10, g11, g12, g13, g14, g15, g16, g17, g18, g19, g20, g21, g22, g23, g24, g25, g2, g4, g5))
def fX9_in  (x0 : Int32) (x1 : Int32) (x2 : Int32) : Option (Int32) :=
  if x0 < x1 then (
    some 0)
  else (
    if x2 < x0 then (
      some 0)
    else (
      some 1))
def fX9_has  (x0 : Int32) (x1 : Int32) : Option (Int32) :=
  if ((x0 >>> (x1 &&& 31)) &&& 1) = 1 then (
    some 1)
  else (
    some 0)
def lX9_edit_58 (z_s : Nat → Int32) : Nat → (Nat → Int32) → (Int32) → (Int32) → Int32 → Option ((Nat → Int32) × Int32 × Int32)
  | 0, _, _, _, _ => none
  | n + 1, z_past, z_pasts, z_changed, y1 =>
    if 467 ≤ y1 then (
      some (z_past, z_pasts + 1, z_changed))
    else (
      rd 467 z_s y1 fun v2 =>
      wr 3736 z_past ((467 * z_pasts) + y1) v2 fun g3 =>
      lX9_edit_58 z_s n g3 z_pasts z_changed (y1 + 1))
theorem lX9_edit_58_s (z_s : Nat → Int32) (n : Nat) (z_past : Nat → Int32) (z_pasts : Int32) (z_changed : Int32) (y1 : Int32) : lX9_edit_58 z_s (n + 1) z_past z_pasts z_changed y1 =
    if 467 ≤ y1 then (
      some (z_past, z_pasts + 1, z_changed))
    else (
      rd 467 z_s y1 fun v2 =>
      wr 3736 z_past ((467 * z_pasts) + y1) v2 fun g3 =>
      lX9_edit_58 z_s n g3 z_pasts z_changed (y1 + 1)) := rfl
def jX9_edit_56 (z_s : Nat → Int32) (z_past : Nat → Int32) (z_pasts : Int32) (z_changed : Int32) : Option ((Nat → Int32) × Int32 × Int32) :=
  lX9_edit_58 z_s 5000 z_past z_pasts z_changed 0
def lX9_edit_17 (z_s : Nat → Int32) : Nat → (Nat → Int32) → (Int32) → (Int32) → Int32 → Option ((Nat → Int32) × Int32 × Int32)
  | 0, _, _, _, _ => none
  | n + 1, z_past, z_pasts, z_changed, y1 =>
    if 3269 ≤ y1 then (
      jX9_edit_56 z_s z_past (z_pasts - 1) z_changed)
    else (
      rd 3736 z_past (y1 + 467) fun v2 =>
      wr 3736 z_past y1 v2 fun g3 =>
      lX9_edit_17 z_s n g3 z_pasts z_changed (y1 + 1))
theorem lX9_edit_17_s (z_s : Nat → Int32) (n : Nat) (z_past : Nat → Int32) (z_pasts : Int32) (z_changed : Int32) (y1 : Int32) : lX9_edit_17 z_s (n + 1) z_past z_pasts z_changed y1 =
    if 3269 ≤ y1 then (
      jX9_edit_56 z_s z_past (z_pasts - 1) z_changed)
    else (
      rd 3736 z_past (y1 + 467) fun v2 =>
      wr 3736 z_past y1 v2 fun g3 =>
      lX9_edit_17 z_s n g3 z_pasts z_changed (y1 + 1)) := rfl
def fX9_edit (z_s : Nat → Int32) (z_past : Nat → Int32) (z_pasts : Int32) (z_changed : Int32) : Option ((Nat → Int32) × Int32 × Int32) :=
  if z_pasts = 8 then (
    lX9_edit_17 z_s 5000 z_past z_pasts (-9) 0)
  else (
    jX9_edit_56 z_s z_past z_pasts (-9))
def lX9_undo_28 (z_past : Nat → Int32) : Nat → (Nat → Int32) → (Int32) → (Int32) → Int32 → Option (Int32 × (Nat → Int32) × Int32 × Int32)
  | 0, _, _, _, _ => none
  | n + 1, z_s, z_pasts, z_changed, y1 =>
    if 467 ≤ y1 then (
      some (z_pasts, z_s, z_pasts, z_changed))
    else (
      rd 3736 z_past ((467 * z_pasts) + y1) fun v2 =>
      wr 467 z_s y1 v2 fun g3 =>
      lX9_undo_28 z_past n g3 z_pasts z_changed (y1 + 1))
theorem lX9_undo_28_s (z_past : Nat → Int32) (n : Nat) (z_s : Nat → Int32) (z_pasts : Int32) (z_changed : Int32) (y1 : Int32) : lX9_undo_28 z_past (n + 1) z_s z_pasts z_changed y1 =
    if 467 ≤ y1 then (
      some (z_pasts, z_s, z_pasts, z_changed))
    else (
      rd 3736 z_past ((467 * z_pasts) + y1) fun v2 =>
      wr 467 z_s y1 v2 fun g3 =>
      lX9_undo_28 z_past n g3 z_pasts z_changed (y1 + 1)) := rfl
def fX9_undo (z_s : Nat → Int32) (z_past : Nat → Int32) (z_pasts : Int32) (z_changed : Int32) : Option (Int32 × (Nat → Int32) × Int32 × Int32) :=
  if z_pasts = 0 then (
    some ((-2), z_s, z_pasts, z_changed))
  else (
    lX9_undo_28 z_past 5000 z_s (z_pasts - 1) (-9) 0)
def fX9_isType (z_s : Nat → Int32) (x1 : Int32) : Option (Int32) :=
  rd 467 z_s 0 fun v1 =>
  bn (fX9_in x1 0 (v1 - 1)) fun v2 =>
  rb v2
def fX9_isInterface (z_s : Nat → Int32) (x1 : Int32) : Option (Int32) :=
  rd 467 z_s (1 + (3 * x1)) fun v1 =>
  if v1 = 1 then (
    some 1)
  else (
    some 0)
def jX9_closed_63 (z_s : Nat → Int32) (k5 : Int32 → Int32 → Option (Int32)) (y3 : Int32) (s0 : Int32) (s1 : Int32) (s2 : Int32) : Option (Int32) :=
  k5 (s0 ||| (s1 ||| s2)) (y3 + (-1))
def lX9_closed_5 (z_s : Nat → Int32) : Nat → Int32 → Int32 → Option (Int32)
  | 0, _, _ => none
  | n + 1, y2, y3 =>
    if y3 < 0 then (
      some y2)
    else (
      bn (fX9_has y2 y3) fun v2 =>
      if v2 = 0 then (
        lX9_closed_5 z_s n y2 (y3 + (-1)))
      else (
        rd 467 z_s ((1 + (3 * y3)) + 2) fun v4 =>
        rd 467 z_s ((1 + (3 * y3)) + 1) fun v5 =>
        if 0 ≤ v5 then (
          rd 467 z_s ((1 + (3 * y3)) + 1) fun v7 =>
          jX9_closed_63 z_s (fun u2 u3 => lX9_closed_5 z_s n u2 u3) y3 y2 v4 (1 <<< (v7 &&& 31)))
        else (
          jX9_closed_63 z_s (fun u2 u3 => lX9_closed_5 z_s n u2 u3) y3 y2 v4 0)))
theorem lX9_closed_5_s (z_s : Nat → Int32) (n : Nat) (y2 : Int32) (y3 : Int32) : lX9_closed_5 z_s (n + 1) y2 y3 =
    if y3 < 0 then (
      some y2)
    else (
      bn (fX9_has y2 y3) fun v2 =>
      if v2 = 0 then (
        lX9_closed_5 z_s n y2 (y3 + (-1)))
      else (
        rd 467 z_s ((1 + (3 * y3)) + 2) fun v4 =>
        rd 467 z_s ((1 + (3 * y3)) + 1) fun v5 =>
        if 0 ≤ v5 then (
          rd 467 z_s ((1 + (3 * y3)) + 1) fun v7 =>
          jX9_closed_63 z_s (fun u2 u3 => lX9_closed_5 z_s n u2 u3) y3 y2 v4 (1 <<< (v7 &&& 31)))
        else (
          jX9_closed_63 z_s (fun u2 u3 => lX9_closed_5 z_s n u2 u3) y3 y2 v4 0))) := rfl
def fX9_closed (z_s : Nat → Int32) (x1 : Int32) : Option (Int32) :=
  lX9_closed_5 z_s 5000 x1 7
def fX9_supers (z_s : Nat → Int32) (x1 : Int32) : Option (Int32) :=
  bn (fX9_closed z_s (1 <<< (x1 &&& 31))) fun v1 =>
  some v1
def jX9_areConnected_51 (z_s : Nat → Int32) (k5 : Int32 → Int32 → Int32 → Int32 → Option (Int32)) (y1 : Int32) (y2 : Int32) (y4 : Int32) (s0 : Int32) : Option (Int32) :=
  k5 y1 y2 s0 (y4 + 1)
def jX9_areConnected_46 (z_s : Nat → Int32) (k5 : Int32 → Int32 → Int32 → Int32 → Option (Int32)) (y1 : Int32) (y2 : Int32) (y4 : Int32) : Option (Int32) :=
  jX9_areConnected_51 z_s k5 y1 y2 y4 1
def jX9_areConnected_50 (z_s : Nat → Int32) (k5 : Int32 → Int32 → Int32 → Int32 → Option (Int32)) (y1 : Int32) (y2 : Int32) (y4 : Int32) : Option (Int32) :=
  jX9_areConnected_51 z_s k5 y1 y2 y4 0
def lX9_areConnected_5 (z_s : Nat → Int32) : Nat → Int32 → Int32 → Int32 → Int32 → Option (Int32)
  | 0, _, _, _, _ => none
  | n + 1, y1, y2, y3, y4 =>
    rd 467 z_s 0 fun v1 =>
    if v1 ≤ y4 then (
      rb y3)
    else (
      if y3 = 0 then (
        bn (fX9_supers z_s y4) fun v4 =>
        bn (fX9_has v4 y1) fun v6 =>
        if v6 = 0 then (
          jX9_areConnected_50 z_s (fun u1 u2 u3 u4 => lX9_areConnected_5 z_s n u1 u2 u3 u4) y1 y2 y4)
        else (
          bn (fX9_supers z_s y4) fun v8 =>
          bn (fX9_has v8 y2) fun v9 =>
          if v9 = 0 then (
            jX9_areConnected_50 z_s (fun u1 u2 u3 u4 => lX9_areConnected_5 z_s n u1 u2 u3 u4) y1 y2 y4)
          else (
            jX9_areConnected_46 z_s (fun u1 u2 u3 u4 => lX9_areConnected_5 z_s n u1 u2 u3 u4) y1 y2 y4)))
      else (
        jX9_areConnected_46 z_s (fun u1 u2 u3 u4 => lX9_areConnected_5 z_s n u1 u2 u3 u4) y1 y2 y4))
theorem lX9_areConnected_5_s (z_s : Nat → Int32) (n : Nat) (y1 : Int32) (y2 : Int32) (y3 : Int32) (y4 : Int32) : lX9_areConnected_5 z_s (n + 1) y1 y2 y3 y4 =
    rd 467 z_s 0 fun v1 =>
    if v1 ≤ y4 then (
      rb y3)
    else (
      if y3 = 0 then (
        bn (fX9_supers z_s y4) fun v4 =>
        bn (fX9_has v4 y1) fun v6 =>
        if v6 = 0 then (
          jX9_areConnected_50 z_s (fun u1 u2 u3 u4 => lX9_areConnected_5 z_s n u1 u2 u3 u4) y1 y2 y4)
        else (
          bn (fX9_supers z_s y4) fun v8 =>
          bn (fX9_has v8 y2) fun v9 =>
          if v9 = 0 then (
            jX9_areConnected_50 z_s (fun u1 u2 u3 u4 => lX9_areConnected_5 z_s n u1 u2 u3 u4) y1 y2 y4)
          else (
            jX9_areConnected_46 z_s (fun u1 u2 u3 u4 => lX9_areConnected_5 z_s n u1 u2 u3 u4) y1 y2 y4)))
      else (
        jX9_areConnected_46 z_s (fun u1 u2 u3 u4 => lX9_areConnected_5 z_s n u1 u2 u3 u4) y1 y2 y4)) := rfl
def fX9_areConnected (z_s : Nat → Int32) (x1 : Int32) (x2 : Int32) : Option (Int32) :=
  lX9_areConnected_5 z_s 5000 x1 x2 0 0
def jX9_allInterfaces_30 (z_s : Nat → Int32) (k4 : Int32 → Int32 → Option (Int32)) (y2 : Int32) (s0 : Int32) (s1 : Int32) : Option (Int32) :=
  k4 (s0 ||| s1) (y2 + 1)
def lX9_allInterfaces_4 (z_s : Nat → Int32) : Nat → Int32 → Int32 → Option (Int32)
  | 0, _, _ => none
  | n + 1, y1, y2 =>
    rd 467 z_s 0 fun v1 =>
    if v1 ≤ y2 then (
      some y1)
    else (
      bn (fX9_isInterface z_s y2) fun v3 =>
      if v3 = 0 then (
        jX9_allInterfaces_30 z_s (fun u1 u2 => lX9_allInterfaces_4 z_s n u1 u2) y2 y1 0)
      else (
        jX9_allInterfaces_30 z_s (fun u1 u2 => lX9_allInterfaces_4 z_s n u1 u2) y2 y1 (1 <<< (y2 &&& 31))))
theorem lX9_allInterfaces_4_s (z_s : Nat → Int32) (n : Nat) (y1 : Int32) (y2 : Int32) : lX9_allInterfaces_4 z_s (n + 1) y1 y2 =
    rd 467 z_s 0 fun v1 =>
    if v1 ≤ y2 then (
      some y1)
    else (
      bn (fX9_isInterface z_s y2) fun v3 =>
      if v3 = 0 then (
        jX9_allInterfaces_30 z_s (fun u1 u2 => lX9_allInterfaces_4 z_s n u1 u2) y2 y1 0)
      else (
        jX9_allInterfaces_30 z_s (fun u1 u2 => lX9_allInterfaces_4 z_s n u1 u2) y2 y1 (1 <<< (y2 &&& 31)))) := rfl
def fX9_allInterfaces (z_s : Nat → Int32) : Option (Int32) :=
  lX9_allInterfaces_4 z_s 5000 0 0
def fX9_of (z_s : Nat → Int32) (x1 : Int32) (x2 : Int32) : Option (Int32) :=
  rd 467 z_s ((26 + (13 * x1)) + x2) fun v1 =>
  some v1
def fX9_isMethod (z_s : Nat → Int32) (x1 : Int32) : Option (Int32) :=
  rd 467 z_s 25 fun v1 =>
  bn (fX9_in x1 0 (v1 - 1)) fun v2 =>
  rb v2
def fX9_isNamed (z_s : Nat → Int32) (x1 : Int32) (x2 : Int32) (x3 : Int32) : Option (Int32) :=
  bn (fX9_of z_s x1 1) fun v1 =>
  if v1 = x2 then (
    bn (fX9_of z_s x1 2) fun v4 =>
    if v4 = x3 then (
      some 1)
    else (
      some 0))
  else (
    some 0)
def fX9_areAlikeNamed (z_s : Nat → Int32) (x1 : Int32) (x2 : Int32) : Option (Int32) :=
  bn (fX9_of z_s x2 1) fun v1 =>
  bn (fX9_of z_s x2 2) fun v3 =>
  bn (fX9_isNamed z_s x1 v1 v3) fun v4 =>
  rb v4
def jX9_haveSameList_94 (z_s : Nat → Int32) (k24 : Int32 → Int32 → Int32 → Int32 → Option (Int32)) (y1 : Int32) (y2 : Int32) (y4 : Int32) (s0 : Int32) : Option (Int32) :=
  k24 y1 y2 s0 (y4 + 1)
def jX9_haveSameList_89 (z_s : Nat → Int32) (k24 : Int32 → Int32 → Int32 → Int32 → Option (Int32)) (y1 : Int32) (y2 : Int32) (y4 : Int32) : Option (Int32) :=
  jX9_haveSameList_94 z_s k24 y1 y2 y4 1
def jX9_haveSameList_93 (z_s : Nat → Int32) (k24 : Int32 → Int32 → Int32 → Int32 → Option (Int32)) (y1 : Int32) (y2 : Int32) (y4 : Int32) : Option (Int32) :=
  jX9_haveSameList_94 z_s k24 y1 y2 y4 0
def lX9_haveSameList_24 (z_s : Nat → Int32) : Nat → Int32 → Int32 → Int32 → Int32 → Option (Int32)
  | 0, _, _, _, _ => none
  | n + 1, y1, y2, y3, y4 =>
    if 5 ≤ y4 then (
      rb y3)
    else (
      if y3 = 0 then (
        rb y3)
      else (
        bn (fX9_of z_s y1 2) fun v3 =>
        if v3 ≤ y4 then (
          jX9_haveSameList_89 z_s (fun u1 u2 u3 u4 => lX9_haveSameList_24 z_s n u1 u2 u3 u4) y1 y2 y4)
        else (
          bn (fX9_of z_s y1 (3 + y4)) fun v6 =>
          bn (fX9_of z_s y2 (3 + y4)) fun v7 =>
          if v6 = v7 then (
            bn (fX9_of z_s y1 (8 + y4)) fun v9 =>
            bn (fX9_of z_s y2 (8 + y4)) fun v10 =>
            if v9 = v10 then (
              jX9_haveSameList_89 z_s (fun u1 u2 u3 u4 => lX9_haveSameList_24 z_s n u1 u2 u3 u4) y1 y2 y4)
            else (
              jX9_haveSameList_93 z_s (fun u1 u2 u3 u4 => lX9_haveSameList_24 z_s n u1 u2 u3 u4) y1 y2 y4))
          else (
            jX9_haveSameList_93 z_s (fun u1 u2 u3 u4 => lX9_haveSameList_24 z_s n u1 u2 u3 u4) y1 y2 y4))))
theorem lX9_haveSameList_24_s (z_s : Nat → Int32) (n : Nat) (y1 : Int32) (y2 : Int32) (y3 : Int32) (y4 : Int32) : lX9_haveSameList_24 z_s (n + 1) y1 y2 y3 y4 =
    if 5 ≤ y4 then (
      rb y3)
    else (
      if y3 = 0 then (
        rb y3)
      else (
        bn (fX9_of z_s y1 2) fun v3 =>
        if v3 ≤ y4 then (
          jX9_haveSameList_89 z_s (fun u1 u2 u3 u4 => lX9_haveSameList_24 z_s n u1 u2 u3 u4) y1 y2 y4)
        else (
          bn (fX9_of z_s y1 (3 + y4)) fun v6 =>
          bn (fX9_of z_s y2 (3 + y4)) fun v7 =>
          if v6 = v7 then (
            bn (fX9_of z_s y1 (8 + y4)) fun v9 =>
            bn (fX9_of z_s y2 (8 + y4)) fun v10 =>
            if v9 = v10 then (
              jX9_haveSameList_89 z_s (fun u1 u2 u3 u4 => lX9_haveSameList_24 z_s n u1 u2 u3 u4) y1 y2 y4)
            else (
              jX9_haveSameList_93 z_s (fun u1 u2 u3 u4 => lX9_haveSameList_24 z_s n u1 u2 u3 u4) y1 y2 y4))
          else (
            jX9_haveSameList_93 z_s (fun u1 u2 u3 u4 => lX9_haveSameList_24 z_s n u1 u2 u3 u4) y1 y2 y4)))) := rfl
def jX9_haveSameList_20 (z_s : Nat → Int32) (y1 : Int32) (y2 : Int32) (s0 : Int32) : Option (Int32) :=
  lX9_haveSameList_24 z_s 5000 y1 y2 s0 0
def fX9_haveSameList (z_s : Nat → Int32) (x1 : Int32) (x2 : Int32) : Option (Int32) :=
  bn (fX9_of z_s x1 2) fun v1 =>
  bn (fX9_of z_s x2 2) fun v3 =>
  if v1 = v3 then (
    jX9_haveSameList_20 z_s x1 x2 1)
  else (
    jX9_haveSameList_20 z_s x1 x2 0)
def jX9_areAtOdds_80 (z_s : Nat → Int32) (k4 : Int32 → Int32 → Int32 → Option (Int32)) (k18 : Int32 → Int32 → Int32 → Int32 → Option (Int32)) (y1 : Int32) (y3 : Int32) (y4 : Int32) (s0 : Int32) : Option (Int32) :=
  k18 y1 s0 y3 (y4 + 1)
def jX9_areAtOdds_75 (z_s : Nat → Int32) (k4 : Int32 → Int32 → Int32 → Option (Int32)) (k18 : Int32 → Int32 → Int32 → Int32 → Option (Int32)) (y1 : Int32) (y3 : Int32) (y4 : Int32) : Option (Int32) :=
  jX9_areAtOdds_80 z_s k4 k18 y1 y3 y4 1
def jX9_areAtOdds_79 (z_s : Nat → Int32) (k4 : Int32 → Int32 → Int32 → Option (Int32)) (k18 : Int32 → Int32 → Int32 → Int32 → Option (Int32)) (y1 : Int32) (y3 : Int32) (y4 : Int32) : Option (Int32) :=
  jX9_areAtOdds_80 z_s k4 k18 y1 y3 y4 0
def lX9_areAtOdds_18 (z_s : Nat → Int32) (k4 : Int32 → Int32 → Int32 → Option (Int32)) : Nat → Int32 → Int32 → Int32 → Int32 → Option (Int32)
  | 0, _, _, _, _ => none
  | n + 1, y1, y2, y3, y4 =>
    if y3 ≤ y4 then (
      k4 y1 y2 (y3 + 1))
    else (
      if y2 = 0 then (
        bn (fX9_of z_s y3 0) fun v3 =>
        bn (fX9_has y1 v3) fun v5 =>
        if v5 = 0 then (
          jX9_areAtOdds_79 z_s k4 (fun u1 u2 u3 u4 => lX9_areAtOdds_18 z_s k4 n u1 u2 u3 u4) y1 y3 y4)
        else (
          bn (fX9_of z_s y4 0) fun v7 =>
          bn (fX9_has y1 v7) fun v8 =>
          if v8 = 0 then (
            jX9_areAtOdds_79 z_s k4 (fun u1 u2 u3 u4 => lX9_areAtOdds_18 z_s k4 n u1 u2 u3 u4) y1 y3 y4)
          else (
            bn (fX9_areAlikeNamed z_s y3 y4) fun v10 =>
            if v10 = 0 then (
              jX9_areAtOdds_79 z_s k4 (fun u1 u2 u3 u4 => lX9_areAtOdds_18 z_s k4 n u1 u2 u3 u4) y1 y3 y4)
            else (
              bn (fX9_haveSameList z_s y3 y4) fun v12 =>
              if v12 = 0 then (
                jX9_areAtOdds_75 z_s k4 (fun u1 u2 u3 u4 => lX9_areAtOdds_18 z_s k4 n u1 u2 u3 u4) y1 y3 y4)
              else (
                jX9_areAtOdds_79 z_s k4 (fun u1 u2 u3 u4 => lX9_areAtOdds_18 z_s k4 n u1 u2 u3 u4) y1 y3 y4)))))
      else (
        jX9_areAtOdds_75 z_s k4 (fun u1 u2 u3 u4 => lX9_areAtOdds_18 z_s k4 n u1 u2 u3 u4) y1 y3 y4))
theorem lX9_areAtOdds_18_s (z_s : Nat → Int32) (k4 : Int32 → Int32 → Int32 → Option (Int32)) (n : Nat) (y1 : Int32) (y2 : Int32) (y3 : Int32) (y4 : Int32) : lX9_areAtOdds_18 z_s k4 (n + 1) y1 y2 y3 y4 =
    if y3 ≤ y4 then (
      k4 y1 y2 (y3 + 1))
    else (
      if y2 = 0 then (
        bn (fX9_of z_s y3 0) fun v3 =>
        bn (fX9_has y1 v3) fun v5 =>
        if v5 = 0 then (
          jX9_areAtOdds_79 z_s k4 (fun u1 u2 u3 u4 => lX9_areAtOdds_18 z_s k4 n u1 u2 u3 u4) y1 y3 y4)
        else (
          bn (fX9_of z_s y4 0) fun v7 =>
          bn (fX9_has y1 v7) fun v8 =>
          if v8 = 0 then (
            jX9_areAtOdds_79 z_s k4 (fun u1 u2 u3 u4 => lX9_areAtOdds_18 z_s k4 n u1 u2 u3 u4) y1 y3 y4)
          else (
            bn (fX9_areAlikeNamed z_s y3 y4) fun v10 =>
            if v10 = 0 then (
              jX9_areAtOdds_79 z_s k4 (fun u1 u2 u3 u4 => lX9_areAtOdds_18 z_s k4 n u1 u2 u3 u4) y1 y3 y4)
            else (
              bn (fX9_haveSameList z_s y3 y4) fun v12 =>
              if v12 = 0 then (
                jX9_areAtOdds_75 z_s k4 (fun u1 u2 u3 u4 => lX9_areAtOdds_18 z_s k4 n u1 u2 u3 u4) y1 y3 y4)
              else (
                jX9_areAtOdds_79 z_s k4 (fun u1 u2 u3 u4 => lX9_areAtOdds_18 z_s k4 n u1 u2 u3 u4) y1 y3 y4)))))
      else (
        jX9_areAtOdds_75 z_s k4 (fun u1 u2 u3 u4 => lX9_areAtOdds_18 z_s k4 n u1 u2 u3 u4) y1 y3 y4)) := rfl
def lX9_areAtOdds_4 (z_s : Nat → Int32) : Nat → Int32 → Int32 → Int32 → Option (Int32)
  | 0, _, _, _ => none
  | n + 1, y1, y2, y3 =>
    rd 467 z_s 25 fun v1 =>
    if v1 ≤ y3 then (
      rb y2)
    else (
      lX9_areAtOdds_18 z_s (fun u1 u2 u3 => lX9_areAtOdds_4 z_s n u1 u2 u3) 5000 y1 y2 y3 0)
theorem lX9_areAtOdds_4_s (z_s : Nat → Int32) (n : Nat) (y1 : Int32) (y2 : Int32) (y3 : Int32) : lX9_areAtOdds_4 z_s (n + 1) y1 y2 y3 =
    rd 467 z_s 25 fun v1 =>
    if v1 ≤ y3 then (
      rb y2)
    else (
      lX9_areAtOdds_18 z_s (fun u1 u2 u3 => lX9_areAtOdds_4 z_s n u1 u2 u3) 5000 y1 y2 y3 0) := rfl
def fX9_areAtOdds (z_s : Nat → Int32) (x1 : Int32) : Option (Int32) :=
  lX9_areAtOdds_4 z_s 5000 x1 0 0
def jX9_declareType_67  (z_s : Nat → Int32) (z_past : Nat → Int32) (z_pasts : Int32) (z_changed : Int32) (y1 : Int32) (y2 : Int32) (y3 : Int32) (s1 : Int32) (s2 : Int32) : Option (Int32 × (Nat → Int32) × (Nat → Int32) × Int32 × Int32) :=
  bn (fX9_closed z_s (s1 ||| s2)) fun v1 =>
  bn (fX9_areAtOdds z_s v1) fun v3 =>
  if v3 = 0 then (
    rd 467 z_s 0 fun v5 =>
    if v5 = 8 then (
      some ((-3), z_s, z_past, z_pasts, z_changed))
    else (
      bn3 (fX9_edit z_s z_past z_pasts z_changed) fun g7 g8 g9 =>
      rd 467 z_s 0 fun v10 =>
      wr 467 z_s (1 + (3 * v10)) y1 fun g11 =>
      wr 467 g11 ((1 + (3 * v10)) + 1) y2 fun g12 =>
      wr 467 g12 ((1 + (3 * v10)) + 2) y3 fun g13 =>
      rd 467 g13 0 fun v14 =>
      wr 467 g13 0 (v14 + 1) fun g15 =>
      rd 467 g15 0 fun v16 =>
      some (v16 - 1, g15, g7, g8, g9)))
  else (
    some ((-2), z_s, z_past, z_pasts, z_changed))
def jX9_declareType_54  (z_s : Nat → Int32) (z_past : Nat → Int32) (z_pasts : Int32) (z_changed : Int32) (y1 : Int32) (y2 : Int32) (y3 : Int32) : Option (Int32 × (Nat → Int32) × (Nat → Int32) × Int32 × Int32) :=
  if 0 ≤ y2 then (
    jX9_declareType_67  z_s z_past z_pasts z_changed y1 y2 y3 y3 (1 <<< (y2 &&& 31)))
  else (
    jX9_declareType_67  z_s z_past z_pasts z_changed y1 y2 y3 y3 0)
def fX9_declareType (z_s : Nat → Int32) (z_past : Nat → Int32) (z_pasts : Int32) (z_changed : Int32) (x1 : Int32) (x2 : Int32) (x3 : Int32) : Option (Int32 × (Nat → Int32) × (Nat → Int32) × Int32 × Int32) :=
  bn (fX9_in x1 0 1) fun v1 =>
  if v1 = 0 then (
    some ((-1), z_s, z_past, z_pasts, z_changed))
  else (
    if x3 < 0 then (
      some ((-1), z_s, z_past, z_pasts, z_changed))
    else (
      bn (fX9_allInterfaces z_s) fun v4 =>
      if (x3 &&& (v4 ^^^ (-1))) = 0 then (
        if x2 = (-1) then (
          jX9_declareType_54  z_s z_past z_pasts z_changed x1 x2 x3)
        else (
          if x1 = 1 then (
            some ((-1), z_s, z_past, z_pasts, z_changed))
          else (
            bn (fX9_isType z_s x2) fun v9 =>
            if v9 = 0 then (
              some ((-1), z_s, z_past, z_pasts, z_changed))
            else (
              bn (fX9_isInterface z_s x2) fun v11 =>
              if v11 = 0 then (
                jX9_declareType_54  z_s z_past z_pasts z_changed x1 x2 x3)
              else (
                some ((-1), z_s, z_past, z_pasts, z_changed))))))
      else (
        some ((-1), z_s, z_past, z_pasts, z_changed))))
def jX9_relatives_54 (z_s : Nat → Int32) (k6 : Int32 → Int32 → Int32 → Int32 → Int32 → Option (Int32)) (y1 : Int32) (y2 : Int32) (y3 : Int32) (y5 : Int32) (s0 : Int32) (s1 : Int32) : Option (Int32) :=
  k6 y1 y2 y3 (s0 ||| s1) (y5 + 1)
def jX9_relatives_53 (z_s : Nat → Int32) (k6 : Int32 → Int32 → Int32 → Int32 → Int32 → Option (Int32)) (y1 : Int32) (y2 : Int32) (y3 : Int32) (y5 : Int32) (s0 : Int32) : Option (Int32) :=
  jX9_relatives_54 z_s k6 y1 y2 y3 y5 s0 0
def lX9_relatives_6 (z_s : Nat → Int32) : Nat → Int32 → Int32 → Int32 → Int32 → Int32 → Option (Int32)
  | 0, _, _, _, _, _ => none
  | n + 1, y1, y2, y3, y4, y5 =>
    rd 467 z_s 25 fun v1 =>
    if v1 ≤ y5 then (
      some y4)
    else (
      bn (fX9_isNamed z_s y5 y2 y3) fun v3 =>
      if v3 = 0 then (
        jX9_relatives_53 z_s (fun u1 u2 u3 u4 u5 => lX9_relatives_6 z_s n u1 u2 u3 u4 u5) y1 y2 y3 y5 y4)
      else (
        bn (fX9_of z_s y5 0) fun v6 =>
        bn (fX9_areConnected z_s y1 v6) fun v7 =>
        if v7 = 0 then (
          jX9_relatives_53 z_s (fun u1 u2 u3 u4 u5 => lX9_relatives_6 z_s n u1 u2 u3 u4 u5) y1 y2 y3 y5 y4)
        else (
          jX9_relatives_54 z_s (fun u1 u2 u3 u4 u5 => lX9_relatives_6 z_s n u1 u2 u3 u4 u5) y1 y2 y3 y5 y4 (1 <<< (y5 &&& 31)))))
theorem lX9_relatives_6_s (z_s : Nat → Int32) (n : Nat) (y1 : Int32) (y2 : Int32) (y3 : Int32) (y4 : Int32) (y5 : Int32) : lX9_relatives_6 z_s (n + 1) y1 y2 y3 y4 y5 =
    rd 467 z_s 25 fun v1 =>
    if v1 ≤ y5 then (
      some y4)
    else (
      bn (fX9_isNamed z_s y5 y2 y3) fun v3 =>
      if v3 = 0 then (
        jX9_relatives_53 z_s (fun u1 u2 u3 u4 u5 => lX9_relatives_6 z_s n u1 u2 u3 u4 u5) y1 y2 y3 y5 y4)
      else (
        bn (fX9_of z_s y5 0) fun v6 =>
        bn (fX9_areConnected z_s y1 v6) fun v7 =>
        if v7 = 0 then (
          jX9_relatives_53 z_s (fun u1 u2 u3 u4 u5 => lX9_relatives_6 z_s n u1 u2 u3 u4 u5) y1 y2 y3 y5 y4)
        else (
          jX9_relatives_54 z_s (fun u1 u2 u3 u4 u5 => lX9_relatives_6 z_s n u1 u2 u3 u4 u5) y1 y2 y3 y5 y4 (1 <<< (y5 &&& 31))))) := rfl
def fX9_relatives (z_s : Nat → Int32) (x1 : Int32) (x2 : Int32) (x3 : Int32) : Option (Int32) :=
  lX9_relatives_6 z_s 5000 x1 x2 x3 0 0
def lX9_lowest_2  : Nat → Int32 → Int32 → Option (Int32)
  | 0, _, _ => none
  | n + 1, y1, y2 =>
    bn (fX9_has y1 y2) fun v1 =>
    if v1 = 0 then (
      lX9_lowest_2  n y1 (y2 + 1))
    else (
      some y2)
theorem lX9_lowest_2_s  (n : Nat) (y1 : Int32) (y2 : Int32) : lX9_lowest_2  (n + 1) y1 y2 =
    bn (fX9_has y1 y2) fun v1 =>
    if v1 = 0 then (
      lX9_lowest_2  n y1 (y2 + 1))
    else (
      some y2) := rfl
def fX9_lowest  (x1 : Int32) : Option (Int32) :=
  lX9_lowest_2  5000 x1 0
def jX9_haveOneList_45 (z_s : Nat → Int32) (k4 : Int32 → Int32 → Int32 → Option (Int32)) (y1 : Int32) (y3 : Int32) (s0 : Int32) : Option (Int32) :=
  k4 y1 s0 (y3 + 1)
def jX9_haveOneList_44 (z_s : Nat → Int32) (k4 : Int32 → Int32 → Int32 → Option (Int32)) (y1 : Int32) (y3 : Int32) : Option (Int32) :=
  jX9_haveOneList_45 z_s k4 y1 y3 0
def jX9_haveOneList_40 (z_s : Nat → Int32) (k4 : Int32 → Int32 → Int32 → Option (Int32)) (y1 : Int32) (y3 : Int32) : Option (Int32) :=
  jX9_haveOneList_45 z_s k4 y1 y3 1
def lX9_haveOneList_4 (z_s : Nat → Int32) : Nat → Int32 → Int32 → Int32 → Option (Int32)
  | 0, _, _, _ => none
  | n + 1, y1, y2, y3 =>
    rd 467 z_s 25 fun v1 =>
    if v1 ≤ y3 then (
      rb y2)
    else (
      if y2 = 0 then (
        jX9_haveOneList_44 z_s (fun u1 u2 u3 => lX9_haveOneList_4 z_s n u1 u2 u3) y1 y3)
      else (
        bn (fX9_has y1 y3) fun v4 =>
        if v4 = 0 then (
          jX9_haveOneList_40 z_s (fun u1 u2 u3 => lX9_haveOneList_4 z_s n u1 u2 u3) y1 y3)
        else (
          bn (fX9_lowest y1) fun v6 =>
          bn (fX9_haveSameList z_s y3 v6) fun v8 =>
          if v8 = 0 then (
            jX9_haveOneList_44 z_s (fun u1 u2 u3 => lX9_haveOneList_4 z_s n u1 u2 u3) y1 y3)
          else (
            jX9_haveOneList_40 z_s (fun u1 u2 u3 => lX9_haveOneList_4 z_s n u1 u2 u3) y1 y3))))
theorem lX9_haveOneList_4_s (z_s : Nat → Int32) (n : Nat) (y1 : Int32) (y2 : Int32) (y3 : Int32) : lX9_haveOneList_4 z_s (n + 1) y1 y2 y3 =
    rd 467 z_s 25 fun v1 =>
    if v1 ≤ y3 then (
      rb y2)
    else (
      if y2 = 0 then (
        jX9_haveOneList_44 z_s (fun u1 u2 u3 => lX9_haveOneList_4 z_s n u1 u2 u3) y1 y3)
      else (
        bn (fX9_has y1 y3) fun v4 =>
        if v4 = 0 then (
          jX9_haveOneList_40 z_s (fun u1 u2 u3 => lX9_haveOneList_4 z_s n u1 u2 u3) y1 y3)
        else (
          bn (fX9_lowest y1) fun v6 =>
          bn (fX9_haveSameList z_s y3 v6) fun v8 =>
          if v8 = 0 then (
            jX9_haveOneList_44 z_s (fun u1 u2 u3 => lX9_haveOneList_4 z_s n u1 u2 u3) y1 y3)
          else (
            jX9_haveOneList_40 z_s (fun u1 u2 u3 => lX9_haveOneList_4 z_s n u1 u2 u3) y1 y3)))) := rfl
def fX9_haveOneList (z_s : Nat → Int32) (x1 : Int32) : Option (Int32) :=
  lX9_haveOneList_4 z_s 5000 x1 1 0
def jX9_declares_50 (z_s : Nat → Int32) (k6 : Int32 → Int32 → Int32 → Int32 → Int32 → Option (Int32)) (y1 : Int32) (y2 : Int32) (y3 : Int32) (y5 : Int32) (s0 : Int32) : Option (Int32) :=
  k6 y1 y2 y3 s0 (y5 + 1)
def jX9_declares_45 (z_s : Nat → Int32) (k6 : Int32 → Int32 → Int32 → Int32 → Int32 → Option (Int32)) (y1 : Int32) (y2 : Int32) (y3 : Int32) (y5 : Int32) : Option (Int32) :=
  jX9_declares_50 z_s k6 y1 y2 y3 y5 1
def jX9_declares_49 (z_s : Nat → Int32) (k6 : Int32 → Int32 → Int32 → Int32 → Int32 → Option (Int32)) (y1 : Int32) (y2 : Int32) (y3 : Int32) (y5 : Int32) : Option (Int32) :=
  jX9_declares_50 z_s k6 y1 y2 y3 y5 0
def lX9_declares_6 (z_s : Nat → Int32) : Nat → Int32 → Int32 → Int32 → Int32 → Int32 → Option (Int32)
  | 0, _, _, _, _, _ => none
  | n + 1, y1, y2, y3, y4, y5 =>
    rd 467 z_s 25 fun v1 =>
    if v1 ≤ y5 then (
      rb y4)
    else (
      if y4 = 0 then (
        bn (fX9_of z_s y5 0) fun v4 =>
        if v4 = y1 then (
          bn (fX9_isNamed z_s y5 y2 y3) fun v7 =>
          if v7 = 0 then (
            jX9_declares_49 z_s (fun u1 u2 u3 u4 u5 => lX9_declares_6 z_s n u1 u2 u3 u4 u5) y1 y2 y3 y5)
          else (
            jX9_declares_45 z_s (fun u1 u2 u3 u4 u5 => lX9_declares_6 z_s n u1 u2 u3 u4 u5) y1 y2 y3 y5))
        else (
          jX9_declares_49 z_s (fun u1 u2 u3 u4 u5 => lX9_declares_6 z_s n u1 u2 u3 u4 u5) y1 y2 y3 y5))
      else (
        jX9_declares_45 z_s (fun u1 u2 u3 u4 u5 => lX9_declares_6 z_s n u1 u2 u3 u4 u5) y1 y2 y3 y5))
theorem lX9_declares_6_s (z_s : Nat → Int32) (n : Nat) (y1 : Int32) (y2 : Int32) (y3 : Int32) (y4 : Int32) (y5 : Int32) : lX9_declares_6 z_s (n + 1) y1 y2 y3 y4 y5 =
    rd 467 z_s 25 fun v1 =>
    if v1 ≤ y5 then (
      rb y4)
    else (
      if y4 = 0 then (
        bn (fX9_of z_s y5 0) fun v4 =>
        if v4 = y1 then (
          bn (fX9_isNamed z_s y5 y2 y3) fun v7 =>
          if v7 = 0 then (
            jX9_declares_49 z_s (fun u1 u2 u3 u4 u5 => lX9_declares_6 z_s n u1 u2 u3 u4 u5) y1 y2 y3 y5)
          else (
            jX9_declares_45 z_s (fun u1 u2 u3 u4 u5 => lX9_declares_6 z_s n u1 u2 u3 u4 u5) y1 y2 y3 y5))
        else (
          jX9_declares_49 z_s (fun u1 u2 u3 u4 u5 => lX9_declares_6 z_s n u1 u2 u3 u4 u5) y1 y2 y3 y5))
      else (
        jX9_declares_45 z_s (fun u1 u2 u3 u4 u5 => lX9_declares_6 z_s n u1 u2 u3 u4 u5) y1 y2 y3 y5)) := rfl
def fX9_declares (z_s : Nat → Int32) (x1 : Int32) (x2 : Int32) (x3 : Int32) : Option (Int32) :=
  lX9_declares_6 z_s 5000 x1 x2 x3 0 0
def jX9_declareMethod_206  (k128 : (Nat → Int32) → (Nat → Int32) → (Int32) → (Int32) → Int32 → Int32 → Int32 → Int32 → Option (Int32 × (Nat → Int32) × (Nat → Int32) × Int32 × Int32)) (z_s : Nat → Int32) (z_past : Nat → Int32) (z_pasts : Int32) (z_changed : Int32) (y4 : Int32) (y5 : Int32) (y6 : Int32) (y7 : Int32) (s1 : Int32) (s2 : Int32) : Option (Int32 × (Nat → Int32) × (Nat → Int32) × Int32 × Int32) :=
  wr 467 z_s s1 s2 fun g1 =>
  k128 g1 z_past z_pasts z_changed y4 y5 y6 (y7 + 1)
def jX9_declareMethod_169  (k128 : (Nat → Int32) → (Nat → Int32) → (Int32) → (Int32) → Int32 → Int32 → Int32 → Int32 → Option (Int32 × (Nat → Int32) × (Nat → Int32) × Int32 × Int32)) (z_s : Nat → Int32) (z_past : Nat → Int32) (z_pasts : Int32) (z_changed : Int32) (y4 : Int32) (y5 : Int32) (y6 : Int32) (y7 : Int32) (s1 : Int32) (s2 : Int32) : Option (Int32 × (Nat → Int32) × (Nat → Int32) × Int32 × Int32) :=
  wr 467 z_s s1 s2 fun g1 =>
  if y4 = 0 then (
    jX9_declareMethod_206  k128 g1 z_past z_pasts z_changed y4 y5 y6 y7 ((y6 + 8) + y7) 0)
  else (
    bn (fX9_lowest y4) fun v3 =>
    bn (fX9_of g1 v3 (8 + y7)) fun v5 =>
    jX9_declareMethod_206  k128 g1 z_past z_pasts z_changed y4 y5 y6 y7 ((y6 + 8) + y7) v5)
def lX9_declareMethod_128  : Nat → (Nat → Int32) → (Nat → Int32) → (Int32) → (Int32) → Int32 → Int32 → Int32 → Int32 → Option (Int32 × (Nat → Int32) × (Nat → Int32) × Int32 × Int32)
  | 0, _, _, _, _, _, _, _, _ => none
  | n + 1, z_s, z_past, z_pasts, z_changed, y4, y5, y6, y7 =>
    if 5 ≤ y7 then (
      rd 467 z_s 25 fun v2 =>
      wr 467 z_s 25 (v2 + 1) fun g3 =>
      some (y5, g3, z_past, z_pasts, z_changed))
    else (
      if y4 = 0 then (
        jX9_declareMethod_169  (fun w_z_s w_z_past w_z_pasts w_z_changed u4 u5 u6 u7 => lX9_declareMethod_128  n w_z_s w_z_past w_z_pasts w_z_changed u4 u5 u6 u7) z_s z_past z_pasts z_changed y4 y5 y6 y7 ((y6 + 3) + y7) y7)
      else (
        bn (fX9_lowest y4) fun v5 =>
        bn (fX9_of z_s v5 (3 + y7)) fun v7 =>
        jX9_declareMethod_169  (fun w_z_s w_z_past w_z_pasts w_z_changed u4 u5 u6 u7 => lX9_declareMethod_128  n w_z_s w_z_past w_z_pasts w_z_changed u4 u5 u6 u7) z_s z_past z_pasts z_changed y4 y5 y6 y7 ((y6 + 3) + y7) v7))
theorem lX9_declareMethod_128_s  (n : Nat) (z_s : Nat → Int32) (z_past : Nat → Int32) (z_pasts : Int32) (z_changed : Int32) (y4 : Int32) (y5 : Int32) (y6 : Int32) (y7 : Int32) : lX9_declareMethod_128  (n + 1) z_s z_past z_pasts z_changed y4 y5 y6 y7 =
    if 5 ≤ y7 then (
      rd 467 z_s 25 fun v2 =>
      wr 467 z_s 25 (v2 + 1) fun g3 =>
      some (y5, g3, z_past, z_pasts, z_changed))
    else (
      if y4 = 0 then (
        jX9_declareMethod_169  (fun w_z_s w_z_past w_z_pasts w_z_changed u4 u5 u6 u7 => lX9_declareMethod_128  n w_z_s w_z_past w_z_pasts w_z_changed u4 u5 u6 u7) z_s z_past z_pasts z_changed y4 y5 y6 y7 ((y6 + 3) + y7) y7)
      else (
        bn (fX9_lowest y4) fun v5 =>
        bn (fX9_of z_s v5 (3 + y7)) fun v7 =>
        jX9_declareMethod_169  (fun w_z_s w_z_past w_z_pasts w_z_changed u4 u5 u6 u7 => lX9_declareMethod_128  n w_z_s w_z_past w_z_pasts w_z_changed u4 u5 u6 u7) z_s z_past z_pasts z_changed y4 y5 y6 y7 ((y6 + 3) + y7) v7)) := rfl
def fX9_declareMethod (z_s : Nat → Int32) (z_past : Nat → Int32) (z_pasts : Int32) (z_changed : Int32) (x1 : Int32) (x2 : Int32) (x3 : Int32) : Option (Int32 × (Nat → Int32) × (Nat → Int32) × Int32 × Int32) :=
  bn (fX9_isType z_s x1) fun v1 =>
  if v1 = 0 then (
    some ((-1), z_s, z_past, z_pasts, z_changed))
  else (
    bn (fX9_in x2 0 5) fun v4 =>
    if v4 = 0 then (
      some ((-1), z_s, z_past, z_pasts, z_changed))
    else (
      bn (fX9_in x3 0 5) fun v6 =>
      if v6 = 0 then (
        some ((-1), z_s, z_past, z_pasts, z_changed))
      else (
        bn (fX9_relatives z_s x1 x2 x3) fun v8 =>
        bn (fX9_declares z_s x1 x2 x3) fun v9 =>
        if v9 = 0 then (
          bn (fX9_haveOneList z_s v8) fun v11 =>
          if v11 = 0 then (
            some ((-2), z_s, z_past, z_pasts, z_changed))
          else (
            rd 467 z_s 25 fun v13 =>
            if v13 = 16 then (
              some ((-3), z_s, z_past, z_pasts, z_changed))
            else (
              bn3 (fX9_edit z_s z_past z_pasts z_changed) fun g15 g16 g17 =>
              rd 467 z_s 25 fun v18 =>
              wr 467 z_s (26 + (13 * v18)) x1 fun g19 =>
              wr 467 g19 ((26 + (13 * v18)) + 1) x2 fun g20 =>
              wr 467 g20 ((26 + (13 * v18)) + 2) x3 fun g21 =>
              lX9_declareMethod_128  5000 g21 g15 g16 g17 v8 v18 (26 + (13 * v18)) 0)))
        else (
          some ((-2), z_s, z_past, z_pasts, z_changed)))))
def jX9_familyOf_86 (z_s : Nat → Int32) (k6 : Int32 → Int32 → Option (Int32)) (y2 : Int32) (s0 : Int32) : Option (Int32) :=
  k6 y2 s0
def jX9_familyOf_67 (z_s : Nat → Int32) (k6 : Int32 → Int32 → Option (Int32)) (k16 : Int32 → Int32 → Int32 → Option (Int32)) (y4 : Int32) (y5 : Int32) (s0 : Int32) (s1 : Int32) : Option (Int32) :=
  k16 (s0 ||| s1) y4 (y5 + 1)
def lX9_familyOf_16 (z_s : Nat → Int32) (k6 : Int32 → Int32 → Option (Int32)) : Nat → Int32 → Int32 → Int32 → Option (Int32)
  | 0, _, _, _ => none
  | n + 1, y2, y4, y5 =>
    rd 467 z_s 25 fun v1 =>
    if v1 ≤ y5 then (
      if y2 = y4 then (
        jX9_familyOf_86 z_s k6 y2 0)
      else (
        jX9_familyOf_86 z_s k6 y2 1))
    else (
      bn (fX9_has y2 y5) fun v4 =>
      if v4 = 0 then (
        jX9_familyOf_67 z_s k6 (fun u2 u4 u5 => lX9_familyOf_16 z_s k6 n u2 u4 u5) y4 y5 y2 0)
      else (
        bn (fX9_of z_s y5 0) fun v6 =>
        bn (fX9_of z_s y5 1) fun v8 =>
        bn (fX9_of z_s y5 2) fun v9 =>
        bn (fX9_relatives z_s v6 v8 v9) fun v10 =>
        jX9_familyOf_67 z_s k6 (fun u2 u4 u5 => lX9_familyOf_16 z_s k6 n u2 u4 u5) y4 y5 y2 v10))
theorem lX9_familyOf_16_s (z_s : Nat → Int32) (k6 : Int32 → Int32 → Option (Int32)) (n : Nat) (y2 : Int32) (y4 : Int32) (y5 : Int32) : lX9_familyOf_16 z_s k6 (n + 1) y2 y4 y5 =
    rd 467 z_s 25 fun v1 =>
    if v1 ≤ y5 then (
      if y2 = y4 then (
        jX9_familyOf_86 z_s k6 y2 0)
      else (
        jX9_familyOf_86 z_s k6 y2 1))
    else (
      bn (fX9_has y2 y5) fun v4 =>
      if v4 = 0 then (
        jX9_familyOf_67 z_s k6 (fun u2 u4 u5 => lX9_familyOf_16 z_s k6 n u2 u4 u5) y4 y5 y2 0)
      else (
        bn (fX9_of z_s y5 0) fun v6 =>
        bn (fX9_of z_s y5 1) fun v8 =>
        bn (fX9_of z_s y5 2) fun v9 =>
        bn (fX9_relatives z_s v6 v8 v9) fun v10 =>
        jX9_familyOf_67 z_s k6 (fun u2 u4 u5 => lX9_familyOf_16 z_s k6 n u2 u4 u5) y4 y5 y2 v10)) := rfl
def lX9_familyOf_6 (z_s : Nat → Int32) : Nat → Int32 → Int32 → Option (Int32)
  | 0, _, _ => none
  | n + 1, y2, y3 =>
    if y3 = 0 then (
      some y2)
    else (
      lX9_familyOf_16 z_s (fun u2 u3 => lX9_familyOf_6 z_s n u2 u3) 5000 y2 y2 0)
theorem lX9_familyOf_6_s (z_s : Nat → Int32) (n : Nat) (y2 : Int32) (y3 : Int32) : lX9_familyOf_6 z_s (n + 1) y2 y3 =
    if y3 = 0 then (
      some y2)
    else (
      lX9_familyOf_16 z_s (fun u2 u3 => lX9_familyOf_6 z_s n u2 u3) 5000 y2 y2 0) := rfl
def fX9_familyOf (z_s : Nat → Int32) (x1 : Int32) : Option (Int32) :=
  lX9_familyOf_6 z_s 5000 (1 <<< (x1 &&& 31)) 1
def fX9_typeCount (z_s : Nat → Int32) : Option (Int32) :=
  rd 467 z_s 0 fun v1 =>
  some v1
def fX9_isSubtype (z_s : Nat → Int32) (x1 : Int32) (x2 : Int32) : Option (Int32) :=
  bn (fX9_isType z_s x1) fun v1 =>
  if v1 = 0 then (
    some (-1))
  else (
    bn (fX9_isType z_s x2) fun v4 =>
    if v4 = 0 then (
      some (-1))
    else (
      bn (fX9_supers z_s x1) fun v6 =>
      bn (fX9_has v6 x2) fun v7 =>
      if v7 = 0 then (
        some 0)
      else (
        some 1)))
def fX9_family (z_s : Nat → Int32) (x1 : Int32) : Option (Int32) :=
  bn (fX9_isMethod z_s x1) fun v1 =>
  if v1 = 0 then (
    some (-1))
  else (
    bn (fX9_familyOf z_s x1) fun v4 =>
    some v4)
def fX9_parameterCount (z_s : Nat → Int32) (x1 : Int32) : Option (Int32) :=
  bn (fX9_isMethod z_s x1) fun v1 =>
  if v1 = 0 then (
    some (-1))
  else (
    bn (fX9_of z_s x1 2) fun v4 =>
    some v4)
def fX9_parameterKey (z_s : Nat → Int32) (x1 : Int32) (x2 : Int32) : Option (Int32) :=
  bn (fX9_isMethod z_s x1) fun v1 =>
  if v1 = 0 then (
    some (-1))
  else (
    bn (fX9_of z_s x1 2) fun v4 =>
    bn (fX9_in x2 0 (v4 - 1)) fun v5 =>
    if v5 = 0 then (
      some (-1))
    else (
      bn (fX9_of z_s x1 (3 + x2)) fun v7 =>
      some v7))
def fX9_at  (x1 : Int32) (x2 : Int32) : Option (Int32) :=
  some ((235 + (29 * x1)) + x2)
def fX9_isCall (z_s : Nat → Int32) (x1 : Int32) : Option (Int32) :=
  rd 467 z_s 234 fun v1 =>
  bn (fX9_in x1 0 (v1 - 1)) fun v2 =>
  rb v2
def fX9_isFrozen (z_s : Nat → Int32) (x1 : Int32) : Option (Int32) :=
  bn (fX9_at x1 3) fun v1 =>
  rd 467 z_s v1 fun v3 =>
  if v3 = 1 then (
    some 1)
  else (
    some 0)
def lX9_targetOf_3 (z_s : Nat → Int32) : Nat → Int32 → Int32 → Int32 → Int32 → Option (Int32)
  | 0, _, _, _, _ => none
  | n + 1, y1, y2, y3, y4 =>
    rd 467 z_s 25 fun v1 =>
    if v1 ≤ y4 then (
      some (-9))
    else (
      bn (fX9_isNamed z_s y4 y2 y3) fun v3 =>
      if v3 = 0 then (
        lX9_targetOf_3 z_s n y1 y2 y3 (y4 + 1))
      else (
        bn (fX9_supers z_s y1) fun v6 =>
        bn (fX9_of z_s y4 0) fun v7 =>
        bn (fX9_has v6 v7) fun v8 =>
        if v8 = 0 then (
          lX9_targetOf_3 z_s n y1 y2 y3 (y4 + 1))
        else (
          some y4)))
theorem lX9_targetOf_3_s (z_s : Nat → Int32) (n : Nat) (y1 : Int32) (y2 : Int32) (y3 : Int32) (y4 : Int32) : lX9_targetOf_3 z_s (n + 1) y1 y2 y3 y4 =
    rd 467 z_s 25 fun v1 =>
    if v1 ≤ y4 then (
      some (-9))
    else (
      bn (fX9_isNamed z_s y4 y2 y3) fun v3 =>
      if v3 = 0 then (
        lX9_targetOf_3 z_s n y1 y2 y3 (y4 + 1))
      else (
        bn (fX9_supers z_s y1) fun v6 =>
        bn (fX9_of z_s y4 0) fun v7 =>
        bn (fX9_has v6 v7) fun v8 =>
        if v8 = 0 then (
          lX9_targetOf_3 z_s n y1 y2 y3 (y4 + 1))
        else (
          some y4))) := rfl
def fX9_targetOf (z_s : Nat → Int32) (x1 : Int32) (x2 : Int32) (x3 : Int32) : Option (Int32) :=
  lX9_targetOf_3 z_s 5000 x1 x2 x3 0
def lX9_declareCall_194  : Nat → (Nat → Int32) → (Nat → Int32) → (Int32) → (Int32) → Int32 → Int32 → Int32 → Int32 → Option (Int32 × (Nat → Int32) × (Nat → Int32) × Int32 × Int32)
  | 0, _, _, _, _, _, _, _, _ => none
  | n + 1, z_s, z_past, z_pasts, z_changed, y4, y5, y6, y7 =>
    if y4 ≤ y7 then (
      rd 467 z_s 234 fun v2 =>
      wr 467 z_s 234 (v2 + 1) fun g3 =>
      some (y6, g3, z_past, z_pasts, z_changed))
    else (
      bn (fX9_at y6 (15 + y7)) fun v4 =>
      bn (fX9_of z_s y5 (3 + y7)) fun v6 =>
      wr 467 z_s v4 v6 fun g7 =>
      lX9_declareCall_194  n g7 z_past z_pasts z_changed y4 y5 y6 (y7 + 1))
theorem lX9_declareCall_194_s  (n : Nat) (z_s : Nat → Int32) (z_past : Nat → Int32) (z_pasts : Int32) (z_changed : Int32) (y4 : Int32) (y5 : Int32) (y6 : Int32) (y7 : Int32) : lX9_declareCall_194  (n + 1) z_s z_past z_pasts z_changed y4 y5 y6 y7 =
    if y4 ≤ y7 then (
      rd 467 z_s 234 fun v2 =>
      wr 467 z_s 234 (v2 + 1) fun g3 =>
      some (y6, g3, z_past, z_pasts, z_changed))
    else (
      bn (fX9_at y6 (15 + y7)) fun v4 =>
      bn (fX9_of z_s y5 (3 + y7)) fun v6 =>
      wr 467 z_s v4 v6 fun g7 =>
      lX9_declareCall_194  n g7 z_past z_pasts z_changed y4 y5 y6 (y7 + 1)) := rfl
def lX9_declareCall_110  : Nat → (Nat → Int32) → (Nat → Int32) → (Int32) → (Int32) → Int32 → Int32 → Int32 → Int32 → Int32 → Int32 → Option (Int32 × (Nat → Int32) × (Nat → Int32) × Int32 × Int32)
  | 0, _, _, _, _, _, _, _, _, _, _ => none
  | n + 1, z_s, z_past, z_pasts, z_changed, y1, y2, y4, y5, y6, y7 =>
    if 29 ≤ y7 then (
      bn (fX9_at y6 0) fun v2 =>
      wr 467 z_s v2 y1 fun g4 =>
      bn (fX9_at y6 1) fun v5 =>
      wr 467 g4 v5 y2 fun g7 =>
      bn (fX9_at y6 2) fun v8 =>
      wr 467 g7 v8 y5 fun g10 =>
      bn (fX9_at y6 4) fun v11 =>
      wr 467 g10 v11 y4 fun g13 =>
      lX9_declareCall_194  5000 g13 z_past z_pasts z_changed y4 y5 y6 0)
    else (
      bn (fX9_at y6 y7) fun v14 =>
      wr 467 z_s v14 0 fun g16 =>
      lX9_declareCall_110  n g16 z_past z_pasts z_changed y1 y2 y4 y5 y6 (y7 + 1))
theorem lX9_declareCall_110_s  (n : Nat) (z_s : Nat → Int32) (z_past : Nat → Int32) (z_pasts : Int32) (z_changed : Int32) (y1 : Int32) (y2 : Int32) (y4 : Int32) (y5 : Int32) (y6 : Int32) (y7 : Int32) : lX9_declareCall_110  (n + 1) z_s z_past z_pasts z_changed y1 y2 y4 y5 y6 y7 =
    if 29 ≤ y7 then (
      bn (fX9_at y6 0) fun v2 =>
      wr 467 z_s v2 y1 fun g4 =>
      bn (fX9_at y6 1) fun v5 =>
      wr 467 g4 v5 y2 fun g7 =>
      bn (fX9_at y6 2) fun v8 =>
      wr 467 g7 v8 y5 fun g10 =>
      bn (fX9_at y6 4) fun v11 =>
      wr 467 g10 v11 y4 fun g13 =>
      lX9_declareCall_194  5000 g13 z_past z_pasts z_changed y4 y5 y6 0)
    else (
      bn (fX9_at y6 y7) fun v14 =>
      wr 467 z_s v14 0 fun g16 =>
      lX9_declareCall_110  n g16 z_past z_pasts z_changed y1 y2 y4 y5 y6 (y7 + 1)) := rfl
def fX9_declareCall (z_s : Nat → Int32) (z_past : Nat → Int32) (z_pasts : Int32) (z_changed : Int32) (x1 : Int32) (x2 : Int32) (x3 : Int32) (x4 : Int32) : Option (Int32 × (Nat → Int32) × (Nat → Int32) × Int32 × Int32) :=
  bn (fX9_isType z_s x1) fun v1 =>
  if v1 = 0 then (
    some ((-1), z_s, z_past, z_pasts, z_changed))
  else (
    bn (fX9_isType z_s x2) fun v4 =>
    if v4 = 0 then (
      some ((-1), z_s, z_past, z_pasts, z_changed))
    else (
      bn (fX9_in x3 0 5) fun v6 =>
      if v6 = 0 then (
        some ((-1), z_s, z_past, z_pasts, z_changed))
      else (
        bn (fX9_in x4 0 5) fun v8 =>
        if v8 = 0 then (
          some ((-1), z_s, z_past, z_pasts, z_changed))
        else (
          bn (fX9_targetOf z_s x1 x3 x4) fun v10 =>
          bn (fX9_isInterface z_s x2) fun v11 =>
          if v11 = 0 then (
            bn (fX9_supers z_s x2) fun v13 =>
            bn (fX9_has v13 x1) fun v14 =>
            if v14 = 0 then (
              some ((-2), z_s, z_past, z_pasts, z_changed))
            else (
              if v10 = (-9) then (
                some ((-2), z_s, z_past, z_pasts, z_changed))
              else (
                rd 467 z_s 234 fun v17 =>
                if v17 = 8 then (
                  some ((-3), z_s, z_past, z_pasts, z_changed))
                else (
                  bn3 (fX9_edit z_s z_past z_pasts z_changed) fun g19 g20 g21 =>
                  rd 467 z_s 234 fun v22 =>
                  lX9_declareCall_110  5000 z_s g19 g20 g21 x1 x2 x4 v10 v22 0))))
          else (
            some ((-2), z_s, z_past, z_pasts, z_changed))))))
def fX9_isArgument (z_s : Nat → Int32) (x1 : Int32) (x2 : Int32) : Option (Int32) :=
  bn (fX9_isCall z_s x1) fun v1 =>
  if v1 = 0 then (
    some 0)
  else (
    bn (fX9_at x1 4) fun v4 =>
    rd 467 z_s v4 fun v5 =>
    bn (fX9_in x2 0 (v5 - 1)) fun v6 =>
    if v6 = 0 then (
      some 0)
    else (
      some 1))
def jX9_setArgument_40  (z_s : Nat → Int32) (z_past : Nat → Int32) (z_pasts : Int32) (z_changed : Int32) (y1 : Int32) (y2 : Int32) (y3 : Int32) (y4 : Int32) (s0 : Int32) (s1 : Int32) (s2 : Int32) : Option (Int32 × (Nat → Int32) × (Nat → Int32) × Int32 × Int32) :=
  bn (fX9_in s0 s1 s2) fun v1 =>
  if v1 = 0 then (
    some ((-1), z_s, z_past, z_pasts, z_changed))
  else (
    bn (fX9_at y1 (5 + y2)) fun v3 =>
    rd 467 z_s v3 fun v5 =>
    bn (fX9_isFrozen z_s y1) fun v6 =>
    if v6 = 0 then (
      if v5 = 3 then (
        some ((-2), z_s, z_past, z_pasts, z_changed))
      else (
        bn3 (fX9_edit z_s z_past z_pasts z_changed) fun g9 g10 g11 =>
        bn (fX9_at y1 (5 + y2)) fun v12 =>
        wr 467 z_s v12 y3 fun g14 =>
        bn (fX9_at y1 (10 + y2)) fun v15 =>
        wr 467 g14 v15 y4 fun g17 =>
        some (v5, g17, g9, g10, g11)))
    else (
      some ((-2), z_s, z_past, z_pasts, z_changed)))
def jX9_setArgument_30  (z_s : Nat → Int32) (z_past : Nat → Int32) (z_pasts : Int32) (z_changed : Int32) (y1 : Int32) (y2 : Int32) (y3 : Int32) (y4 : Int32) (s0 : Int32) (s1 : Int32) : Option (Int32 × (Nat → Int32) × (Nat → Int32) × Int32 × Int32) :=
  if y3 = 0 then (
    jX9_setArgument_40  z_s z_past z_pasts z_changed y1 y2 y3 y4 s0 s1 99)
  else (
    jX9_setArgument_40  z_s z_past z_pasts z_changed y1 y2 y3 y4 s0 s1 0)
def fX9_setArgument (z_s : Nat → Int32) (z_past : Nat → Int32) (z_pasts : Int32) (z_changed : Int32) (x1 : Int32) (x2 : Int32) (x3 : Int32) (x4 : Int32) : Option (Int32 × (Nat → Int32) × (Nat → Int32) × Int32 × Int32) :=
  bn (fX9_isArgument z_s x1 x2) fun v1 =>
  if v1 = 0 then (
    some ((-1), z_s, z_past, z_pasts, z_changed))
  else (
    bn (fX9_in x3 0 2) fun v4 =>
    if v4 = 0 then (
      some ((-1), z_s, z_past, z_pasts, z_changed))
    else (
      if x3 = 0 then (
        jX9_setArgument_30  z_s z_past z_pasts z_changed x1 x2 x3 x4 x4 (-99))
      else (
        jX9_setArgument_30  z_s z_past z_pasts z_changed x1 x2 x3 x4 x4 0)))
def jX9_isUpToDate_87 (z_s : Nat → Int32) (k44 : Int32 → Int32 → Int32 → Int32 → Int32 → Option (Int32)) (y1 : Int32) (y2 : Int32) (y3 : Int32) (y5 : Int32) (s0 : Int32) : Option (Int32) :=
  k44 y1 y2 y3 s0 (y5 + 1)
def lX9_isUpToDate_44 (z_s : Nat → Int32) : Nat → Int32 → Int32 → Int32 → Int32 → Int32 → Option (Int32)
  | 0, _, _, _, _, _ => none
  | n + 1, y1, y2, y3, y4, y5 =>
    if y3 ≤ y5 then (
      rb y4)
    else (
      if y4 = 0 then (
        rb y4)
      else (
        bn (fX9_at y1 (15 + y5)) fun v3 =>
        rd 467 z_s v3 fun v5 =>
        bn (fX9_of z_s y2 (3 + y5)) fun v6 =>
        if v5 = v6 then (
          jX9_isUpToDate_87 z_s (fun u1 u2 u3 u4 u5 => lX9_isUpToDate_44 z_s n u1 u2 u3 u4 u5) y1 y2 y3 y5 1)
        else (
          jX9_isUpToDate_87 z_s (fun u1 u2 u3 u4 u5 => lX9_isUpToDate_44 z_s n u1 u2 u3 u4 u5) y1 y2 y3 y5 0)))
theorem lX9_isUpToDate_44_s (z_s : Nat → Int32) (n : Nat) (y1 : Int32) (y2 : Int32) (y3 : Int32) (y4 : Int32) (y5 : Int32) : lX9_isUpToDate_44 z_s (n + 1) y1 y2 y3 y4 y5 =
    if y3 ≤ y5 then (
      rb y4)
    else (
      if y4 = 0 then (
        rb y4)
      else (
        bn (fX9_at y1 (15 + y5)) fun v3 =>
        rd 467 z_s v3 fun v5 =>
        bn (fX9_of z_s y2 (3 + y5)) fun v6 =>
        if v5 = v6 then (
          jX9_isUpToDate_87 z_s (fun u1 u2 u3 u4 u5 => lX9_isUpToDate_44 z_s n u1 u2 u3 u4 u5) y1 y2 y3 y5 1)
        else (
          jX9_isUpToDate_87 z_s (fun u1 u2 u3 u4 u5 => lX9_isUpToDate_44 z_s n u1 u2 u3 u4 u5) y1 y2 y3 y5 0))) := rfl
def jX9_isUpToDate_39 (z_s : Nat → Int32) (y1 : Int32) (y2 : Int32) (y3 : Int32) (s0 : Int32) : Option (Int32) :=
  lX9_isUpToDate_44 z_s 5000 y1 y2 y3 s0 0
def fX9_isUpToDate (z_s : Nat → Int32) (x1 : Int32) : Option (Int32) :=
  bn (fX9_at x1 2) fun v1 =>
  rd 467 z_s v1 fun v3 =>
  bn (fX9_at x1 4) fun v4 =>
  rd 467 z_s v4 fun v5 =>
  bn (fX9_of z_s v3 2) fun v6 =>
  if v5 = v6 then (
    jX9_isUpToDate_39 z_s x1 v3 v5 1)
  else (
    jX9_isUpToDate_39 z_s x1 v3 v5 0)
def lX9_setFrozen_70  : Nat → (Nat → Int32) → (Nat → Int32) → (Int32) → (Int32) → Int32 → Int32 → Option (Int32 × (Nat → Int32) × (Nat → Int32) × Int32 × Int32)
  | 0, _, _, _, _, _, _ => none
  | n + 1, z_s, z_past, z_pasts, z_changed, y3, y4 =>
    rd 467 z_s 234 fun v1 =>
    if v1 ≤ y4 then (
      some (y3, z_s, z_past, z_pasts, z_changed))
    else (
      bn (fX9_at y4 3) fun v3 =>
      rd 467 z_s v3 fun v5 =>
      lX9_setFrozen_70  n z_s z_past z_pasts z_changed (y3 + v5) (y4 + 1))
theorem lX9_setFrozen_70_s  (n : Nat) (z_s : Nat → Int32) (z_past : Nat → Int32) (z_pasts : Int32) (z_changed : Int32) (y3 : Int32) (y4 : Int32) : lX9_setFrozen_70  (n + 1) z_s z_past z_pasts z_changed y3 y4 =
    rd 467 z_s 234 fun v1 =>
    if v1 ≤ y4 then (
      some (y3, z_s, z_past, z_pasts, z_changed))
    else (
      bn (fX9_at y4 3) fun v3 =>
      rd 467 z_s v3 fun v5 =>
      lX9_setFrozen_70  n z_s z_past z_pasts z_changed (y3 + v5) (y4 + 1)) := rfl
def jX9_setFrozen_49  (z_s : Nat → Int32) (z_past : Nat → Int32) (z_pasts : Int32) (z_changed : Int32) (y1 : Int32) (y2 : Int32) : Option (Int32 × (Nat → Int32) × (Nat → Int32) × Int32 × Int32) :=
  bn3 (fX9_edit z_s z_past z_pasts z_changed) fun g1 g2 g3 =>
  bn (fX9_at y1 3) fun v4 =>
  wr 467 z_s v4 y2 fun g6 =>
  lX9_setFrozen_70  5000 g6 g1 g2 g3 0 0
def fX9_setFrozen (z_s : Nat → Int32) (z_past : Nat → Int32) (z_pasts : Int32) (z_changed : Int32) (x1 : Int32) (x2 : Int32) : Option (Int32 × (Nat → Int32) × (Nat → Int32) × Int32 × Int32) :=
  bn (fX9_isCall z_s x1) fun v1 =>
  if v1 = 0 then (
    some ((-1), z_s, z_past, z_pasts, z_changed))
  else (
    bn (fX9_in x2 0 1) fun v4 =>
    if v4 = 0 then (
      some ((-1), z_s, z_past, z_pasts, z_changed))
    else (
      bn (fX9_at x1 3) fun v6 =>
      rd 467 z_s v6 fun v7 =>
      if v7 = x2 then (
        some ((-2), z_s, z_past, z_pasts, z_changed))
      else (
        if x2 = 0 then (
          bn (fX9_isUpToDate z_s x1) fun v10 =>
          if v10 = 0 then (
            some ((-2), z_s, z_past, z_pasts, z_changed))
          else (
            jX9_setFrozen_49  z_s z_past z_pasts z_changed x1 x2))
        else (
          jX9_setFrozen_49  z_s z_past z_pasts z_changed x1 x2))))
def lX9_declaredBy_2 (z_s : Nat → Int32) : Nat → Int32 → Int32 → Int32 → Option (Int32)
  | 0, _, _, _ => none
  | n + 1, y1, y2, y3 =>
    rd 467 z_s 25 fun v1 =>
    if v1 ≤ y3 then (
      some (-9))
    else (
      bn (fX9_of z_s y3 0) fun v3 =>
      if v3 = y1 then (
        bn (fX9_areAlikeNamed z_s y3 y2) fun v6 =>
        if v6 = 0 then (
          lX9_declaredBy_2 z_s n y1 y2 (y3 + 1))
        else (
          some y3))
      else (
        lX9_declaredBy_2 z_s n y1 y2 (y3 + 1)))
theorem lX9_declaredBy_2_s (z_s : Nat → Int32) (n : Nat) (y1 : Int32) (y2 : Int32) (y3 : Int32) : lX9_declaredBy_2 z_s (n + 1) y1 y2 y3 =
    rd 467 z_s 25 fun v1 =>
    if v1 ≤ y3 then (
      some (-9))
    else (
      bn (fX9_of z_s y3 0) fun v3 =>
      if v3 = y1 then (
        bn (fX9_areAlikeNamed z_s y3 y2) fun v6 =>
        if v6 = 0 then (
          lX9_declaredBy_2 z_s n y1 y2 (y3 + 1))
        else (
          some y3))
      else (
        lX9_declaredBy_2 z_s n y1 y2 (y3 + 1))) := rfl
def fX9_declaredBy (z_s : Nat → Int32) (x1 : Int32) (x2 : Int32) : Option (Int32) :=
  lX9_declaredBy_2 z_s 5000 x1 x2 0
def jX9_isOverridden_102 (z_s : Nat → Int32) (k6 : Int32 → Int32 → Int32 → Int32 → Int32 → Option (Int32)) (y1 : Int32) (y2 : Int32) (y3 : Int32) (y5 : Int32) (s0 : Int32) : Option (Int32) :=
  k6 y1 y2 y3 s0 (y5 + 1)
def jX9_isOverridden_97 (z_s : Nat → Int32) (k6 : Int32 → Int32 → Int32 → Int32 → Int32 → Option (Int32)) (y1 : Int32) (y2 : Int32) (y3 : Int32) (y5 : Int32) : Option (Int32) :=
  jX9_isOverridden_102 z_s k6 y1 y2 y3 y5 1
def jX9_isOverridden_101 (z_s : Nat → Int32) (k6 : Int32 → Int32 → Int32 → Int32 → Int32 → Option (Int32)) (y1 : Int32) (y2 : Int32) (y3 : Int32) (y5 : Int32) : Option (Int32) :=
  jX9_isOverridden_102 z_s k6 y1 y2 y3 y5 0
def jX9_isOverridden_67 (z_s : Nat → Int32) (k6 : Int32 → Int32 → Int32 → Int32 → Int32 → Option (Int32)) (y1 : Int32) (y2 : Int32) (y3 : Int32) (y4 : Int32) (y5 : Int32) (s0 : Int32) : Option (Int32) :=
  if y4 = 0 then (
    if s0 = 0 then (
      jX9_isOverridden_101 z_s k6 y1 y2 y3 y5)
    else (
      bn (fX9_supers z_s y5) fun v3 =>
      bn (fX9_of z_s y1 0) fun v5 =>
      bn (fX9_has v3 v5) fun v6 =>
      if v6 = 0 then (
        jX9_isOverridden_101 z_s k6 y1 y2 y3 y5)
      else (
        jX9_isOverridden_97 z_s k6 y1 y2 y3 y5)))
  else (
    jX9_isOverridden_97 z_s k6 y1 y2 y3 y5)
def jX9_isOverridden_66 (z_s : Nat → Int32) (k6 : Int32 → Int32 → Int32 → Int32 → Int32 → Option (Int32)) (y1 : Int32) (y2 : Int32) (y3 : Int32) (y4 : Int32) (y5 : Int32) : Option (Int32) :=
  jX9_isOverridden_67 z_s k6 y1 y2 y3 y4 y5 0
def lX9_isOverridden_6 (z_s : Nat → Int32) : Nat → Int32 → Int32 → Int32 → Int32 → Int32 → Option (Int32)
  | 0, _, _, _, _, _ => none
  | n + 1, y1, y2, y3, y4, y5 =>
    rd 467 z_s 0 fun v1 =>
    if v1 ≤ y5 then (
      rb y4)
    else (
      bn (fX9_of z_s y1 0) fun v3 =>
      if y5 = v3 then (
        jX9_isOverridden_66 z_s (fun u1 u2 u3 u4 u5 => lX9_isOverridden_6 z_s n u1 u2 u3 u4 u5) y1 y2 y3 y4 y5)
      else (
        bn (fX9_isInterface z_s y5) fun v6 =>
        if v6 = 0 then (
          jX9_isOverridden_66 z_s (fun u1 u2 u3 u4 u5 => lX9_isOverridden_6 z_s n u1 u2 u3 u4 u5) y1 y2 y3 y4 y5)
        else (
          bn (fX9_supers z_s y2) fun v8 =>
          bn (fX9_has v8 y5) fun v9 =>
          if v9 = 0 then (
            jX9_isOverridden_66 z_s (fun u1 u2 u3 u4 u5 => lX9_isOverridden_6 z_s n u1 u2 u3 u4 u5) y1 y2 y3 y4 y5)
          else (
            bn (fX9_declaredBy z_s y5 y3) fun v11 =>
            if v11 = (-9) then (
              jX9_isOverridden_66 z_s (fun u1 u2 u3 u4 u5 => lX9_isOverridden_6 z_s n u1 u2 u3 u4 u5) y1 y2 y3 y4 y5)
            else (
              jX9_isOverridden_67 z_s (fun u1 u2 u3 u4 u5 => lX9_isOverridden_6 z_s n u1 u2 u3 u4 u5) y1 y2 y3 y4 y5 1)))))
theorem lX9_isOverridden_6_s (z_s : Nat → Int32) (n : Nat) (y1 : Int32) (y2 : Int32) (y3 : Int32) (y4 : Int32) (y5 : Int32) : lX9_isOverridden_6 z_s (n + 1) y1 y2 y3 y4 y5 =
    rd 467 z_s 0 fun v1 =>
    if v1 ≤ y5 then (
      rb y4)
    else (
      bn (fX9_of z_s y1 0) fun v3 =>
      if y5 = v3 then (
        jX9_isOverridden_66 z_s (fun u1 u2 u3 u4 u5 => lX9_isOverridden_6 z_s n u1 u2 u3 u4 u5) y1 y2 y3 y4 y5)
      else (
        bn (fX9_isInterface z_s y5) fun v6 =>
        if v6 = 0 then (
          jX9_isOverridden_66 z_s (fun u1 u2 u3 u4 u5 => lX9_isOverridden_6 z_s n u1 u2 u3 u4 u5) y1 y2 y3 y4 y5)
        else (
          bn (fX9_supers z_s y2) fun v8 =>
          bn (fX9_has v8 y5) fun v9 =>
          if v9 = 0 then (
            jX9_isOverridden_66 z_s (fun u1 u2 u3 u4 u5 => lX9_isOverridden_6 z_s n u1 u2 u3 u4 u5) y1 y2 y3 y4 y5)
          else (
            bn (fX9_declaredBy z_s y5 y3) fun v11 =>
            if v11 = (-9) then (
              jX9_isOverridden_66 z_s (fun u1 u2 u3 u4 u5 => lX9_isOverridden_6 z_s n u1 u2 u3 u4 u5) y1 y2 y3 y4 y5)
            else (
              jX9_isOverridden_67 z_s (fun u1 u2 u3 u4 u5 => lX9_isOverridden_6 z_s n u1 u2 u3 u4 u5) y1 y2 y3 y4 y5 1))))) := rfl
def fX9_isOverridden (z_s : Nat → Int32) (x1 : Int32) (x2 : Int32) (x3 : Int32) : Option (Int32) :=
  lX9_isOverridden_6 z_s 5000 x1 x2 x3 0 0
def jX9_dispatched_117 (z_s : Nat → Int32) (k72 : Int32 → Int32 → Int32 → Option (Int32)) (y2 : Int32) (y3 : Int32) (y4 : Int32) (s0 : Int32) : Option (Int32) :=
  if s0 = (-9) then (
    k72 y2 y3 (y4 + 1))
  else (
    bn (fX9_isOverridden z_s s0 y3 y2) fun v2 =>
    if v2 = 0 then (
      some s0)
    else (
      k72 y2 y3 (y4 + 1)))
def jX9_dispatched_115 (z_s : Nat → Int32) (k72 : Int32 → Int32 → Int32 → Option (Int32)) (y2 : Int32) (y3 : Int32) (y4 : Int32) : Option (Int32) :=
  jX9_dispatched_117 z_s k72 y2 y3 y4 (-9)
def lX9_dispatched_72 (z_s : Nat → Int32) : Nat → Int32 → Int32 → Int32 → Option (Int32)
  | 0, _, _, _ => none
  | n + 1, y2, y3, y4 =>
    rd 467 z_s 0 fun v1 =>
    if v1 ≤ y4 then (
      some (-9))
    else (
      bn (fX9_isInterface z_s y4) fun v3 =>
      if v3 = 0 then (
        jX9_dispatched_115 z_s (fun u2 u3 u4 => lX9_dispatched_72 z_s n u2 u3 u4) y2 y3 y4)
      else (
        bn (fX9_supers z_s y3) fun v6 =>
        bn (fX9_has v6 y4) fun v7 =>
        if v7 = 0 then (
          jX9_dispatched_115 z_s (fun u2 u3 u4 => lX9_dispatched_72 z_s n u2 u3 u4) y2 y3 y4)
        else (
          bn (fX9_declaredBy z_s y4 y2) fun v9 =>
          jX9_dispatched_117 z_s (fun u2 u3 u4 => lX9_dispatched_72 z_s n u2 u3 u4) y2 y3 y4 v9)))
theorem lX9_dispatched_72_s (z_s : Nat → Int32) (n : Nat) (y2 : Int32) (y3 : Int32) (y4 : Int32) : lX9_dispatched_72 z_s (n + 1) y2 y3 y4 =
    rd 467 z_s 0 fun v1 =>
    if v1 ≤ y4 then (
      some (-9))
    else (
      bn (fX9_isInterface z_s y4) fun v3 =>
      if v3 = 0 then (
        jX9_dispatched_115 z_s (fun u2 u3 u4 => lX9_dispatched_72 z_s n u2 u3 u4) y2 y3 y4)
      else (
        bn (fX9_supers z_s y3) fun v6 =>
        bn (fX9_has v6 y4) fun v7 =>
        if v7 = 0 then (
          jX9_dispatched_115 z_s (fun u2 u3 u4 => lX9_dispatched_72 z_s n u2 u3 u4) y2 y3 y4)
        else (
          bn (fX9_declaredBy z_s y4 y2) fun v9 =>
          jX9_dispatched_117 z_s (fun u2 u3 u4 => lX9_dispatched_72 z_s n u2 u3 u4) y2 y3 y4 v9))) := rfl
def lX9_dispatched_27 (z_s : Nat → Int32) : Nat → Int32 → Int32 → Int32 → Option (Int32)
  | 0, _, _, _ => none
  | n + 1, y2, y3, y4 =>
    if y4 < 0 then (
      lX9_dispatched_72 z_s 5000 y2 y3 0)
    else (
      bn (fX9_declaredBy z_s y4 y2) fun v2 =>
      if v2 = (-9) then (
        rd 467 z_s ((1 + (3 * y4)) + 1) fun v5 =>
        lX9_dispatched_27 z_s n y2 y3 v5)
      else (
        some v2))
theorem lX9_dispatched_27_s (z_s : Nat → Int32) (n : Nat) (y2 : Int32) (y3 : Int32) (y4 : Int32) : lX9_dispatched_27 z_s (n + 1) y2 y3 y4 =
    if y4 < 0 then (
      lX9_dispatched_72 z_s 5000 y2 y3 0)
    else (
      bn (fX9_declaredBy z_s y4 y2) fun v2 =>
      if v2 = (-9) then (
        rd 467 z_s ((1 + (3 * y4)) + 1) fun v5 =>
        lX9_dispatched_27 z_s n y2 y3 v5)
      else (
        some v2)) := rfl
def fX9_dispatched (z_s : Nat → Int32) (x1 : Int32) : Option (Int32) :=
  bn (fX9_at x1 2) fun v1 =>
  rd 467 z_s v1 fun v3 =>
  bn (fX9_at x1 1) fun v4 =>
  rd 467 z_s v4 fun v5 =>
  lX9_dispatched_27 z_s 5000 v3 v5 v5
def fX9_evaluate (z_counter : Int32) (z_held : Nat → Int32) (x1 : Int32) (x2 : Int32) : Option (Int32 × Int32) :=
  if x1 = 1 then (
    some (z_counter, z_counter))
  else (
    if x1 = 2 then (
      some ((z_counter + 1) - 1, z_counter + 1))
    else (
      if x1 = 3 then (
        rd 8 z_held x2 fun v4 =>
        some (v4, z_counter))
      else (
        some (x2, z_counter))))
def lX9_evaluateAll_56 (z_s : Nat → Int32) : Nat → (Int32) → (Nat → Int32) → (Nat → Int32) → Int32 → Int32 → Option (Int32 × (Nat → Int32) × (Nat → Int32))
  | 0, _, _, _, _, _ => none
  | n + 1, z_counter, z_held, z_values, y1, y2 =>
    bn (fX9_at y1 4) fun v1 =>
    rd 467 z_s v1 fun v3 =>
    if v3 ≤ y2 then (
      some (z_counter, z_held, z_values))
    else (
      bn (fX9_at y1 (5 + y2)) fun v5 =>
      rd 467 z_s v5 fun v6 =>
      bn (fX9_at y1 (10 + y2)) fun v7 =>
      rd 467 z_s v7 fun v8 =>
      bn2 (fX9_evaluate z_counter z_held v6 v8) fun v9 g10 =>
      wr 5 z_values y2 v9 fun g11 =>
      lX9_evaluateAll_56 z_s n g10 z_held g11 y1 (y2 + 1))
theorem lX9_evaluateAll_56_s (z_s : Nat → Int32) (n : Nat) (z_counter : Int32) (z_held : Nat → Int32) (z_values : Nat → Int32) (y1 : Int32) (y2 : Int32) : lX9_evaluateAll_56 z_s (n + 1) z_counter z_held z_values y1 y2 =
    bn (fX9_at y1 4) fun v1 =>
    rd 467 z_s v1 fun v3 =>
    if v3 ≤ y2 then (
      some (z_counter, z_held, z_values))
    else (
      bn (fX9_at y1 (5 + y2)) fun v5 =>
      rd 467 z_s v5 fun v6 =>
      bn (fX9_at y1 (10 + y2)) fun v7 =>
      rd 467 z_s v7 fun v8 =>
      bn2 (fX9_evaluate z_counter z_held v6 v8) fun v9 g10 =>
      wr 5 z_values y2 v9 fun g11 =>
      lX9_evaluateAll_56 z_s n g10 z_held g11 y1 (y2 + 1)) := rfl
def lX9_evaluateAll_7 (z_s : Nat → Int32) : Nat → (Int32) → (Nat → Int32) → (Nat → Int32) → Int32 → Int32 → Option (Int32 × (Nat → Int32) × (Nat → Int32))
  | 0, _, _, _, _, _ => none
  | n + 1, z_counter, z_held, z_values, y1, y2 =>
    bn (fX9_at y1 20) fun v1 =>
    rd 467 z_s v1 fun v3 =>
    if v3 ≤ y2 then (
      lX9_evaluateAll_56 z_s 5000 z_counter z_held z_values y1 0)
    else (
      bn (fX9_at y1 (21 + y2)) fun v5 =>
      rd 467 z_s v5 fun v6 =>
      bn2 (fX9_evaluate z_counter z_held v6 0) fun v7 g8 =>
      wr 8 z_held y2 v7 fun g9 =>
      lX9_evaluateAll_7 z_s n g8 g9 z_values y1 (y2 + 1))
theorem lX9_evaluateAll_7_s (z_s : Nat → Int32) (n : Nat) (z_counter : Int32) (z_held : Nat → Int32) (z_values : Nat → Int32) (y1 : Int32) (y2 : Int32) : lX9_evaluateAll_7 z_s (n + 1) z_counter z_held z_values y1 y2 =
    bn (fX9_at y1 20) fun v1 =>
    rd 467 z_s v1 fun v3 =>
    if v3 ≤ y2 then (
      lX9_evaluateAll_56 z_s 5000 z_counter z_held z_values y1 0)
    else (
      bn (fX9_at y1 (21 + y2)) fun v5 =>
      rd 467 z_s v5 fun v6 =>
      bn2 (fX9_evaluate z_counter z_held v6 0) fun v7 g8 =>
      wr 8 z_held y2 v7 fun g9 =>
      lX9_evaluateAll_7 z_s n g8 g9 z_values y1 (y2 + 1)) := rfl
def fX9_evaluateAll (z_s : Nat → Int32) (z_counter : Int32) (z_held : Nat → Int32) (z_values : Nat → Int32) (x1 : Int32) : Option (Int32 × (Nat → Int32) × (Nat → Int32)) :=
  lX9_evaluateAll_7 z_s 5000 0 z_held z_values x1 0
def jX9_valueFor_68 (z_s : Nat → Int32) (z_values : Nat → Int32) (k14 : Int32 → Int32 → Int32 → Int32 → Int32 → Option (Int32)) (y1 : Int32) (y2 : Int32) (y3 : Int32) (y5 : Int32) (s0 : Int32) : Option (Int32) :=
  k14 y1 y2 y3 s0 (y5 + 1)
def lX9_valueFor_14 (z_s : Nat → Int32) (z_values : Nat → Int32) : Nat → Int32 → Int32 → Int32 → Int32 → Int32 → Option (Int32)
  | 0, _, _, _, _, _ => none
  | n + 1, y1, y2, y3, y4, y5 =>
    bn (fX9_at y1 4) fun v1 =>
    rd 467 z_s v1 fun v3 =>
    if v3 ≤ y5 then (
      some y4)
    else (
      bn (fX9_at y1 (15 + y5)) fun v5 =>
      rd 467 z_s v5 fun v6 =>
      bn (fX9_of z_s y2 (3 + y3)) fun v7 =>
      if v6 = v7 then (
        rd 5 z_values y5 fun v9 =>
        jX9_valueFor_68 z_s z_values (fun u1 u2 u3 u4 u5 => lX9_valueFor_14 z_s z_values n u1 u2 u3 u4 u5) y1 y2 y3 y5 v9)
      else (
        jX9_valueFor_68 z_s z_values (fun u1 u2 u3 u4 u5 => lX9_valueFor_14 z_s z_values n u1 u2 u3 u4 u5) y1 y2 y3 y5 y4))
theorem lX9_valueFor_14_s (z_s : Nat → Int32) (z_values : Nat → Int32) (n : Nat) (y1 : Int32) (y2 : Int32) (y3 : Int32) (y4 : Int32) (y5 : Int32) : lX9_valueFor_14 z_s z_values (n + 1) y1 y2 y3 y4 y5 =
    bn (fX9_at y1 4) fun v1 =>
    rd 467 z_s v1 fun v3 =>
    if v3 ≤ y5 then (
      some y4)
    else (
      bn (fX9_at y1 (15 + y5)) fun v5 =>
      rd 467 z_s v5 fun v6 =>
      bn (fX9_of z_s y2 (3 + y3)) fun v7 =>
      if v6 = v7 then (
        rd 5 z_values y5 fun v9 =>
        jX9_valueFor_68 z_s z_values (fun u1 u2 u3 u4 u5 => lX9_valueFor_14 z_s z_values n u1 u2 u3 u4 u5) y1 y2 y3 y5 v9)
      else (
        jX9_valueFor_68 z_s z_values (fun u1 u2 u3 u4 u5 => lX9_valueFor_14 z_s z_values n u1 u2 u3 u4 u5) y1 y2 y3 y5 y4)) := rfl
def fX9_valueFor (z_s : Nat → Int32) (z_values : Nat → Int32) (x1 : Int32) (x2 : Int32) (x3 : Int32) : Option (Int32) :=
  bn (fX9_of z_s x2 (8 + x3)) fun v1 =>
  lX9_valueFor_14 z_s z_values 5000 x1 x2 x3 v1 0
def fX9_dispatch (z_s : Nat → Int32) (x1 : Int32) : Option (Int32) :=
  bn (fX9_isCall z_s x1) fun v1 =>
  if v1 = 0 then (
    some (-1))
  else (
    bn (fX9_dispatched z_s x1) fun v4 =>
    some v4)
def lX9_run_46 (z_s : Nat → Int32) : Nat → (Int32) → (Nat → Int32) → (Nat → Int32) → Int32 → Int32 → Int32 → Int32 → Option (Int32 × Int32 × (Nat → Int32) × (Nat → Int32))
  | 0, _, _, _, _, _, _, _ => none
  | n + 1, z_counter, z_held, z_values, y1, y2, y3, y4 =>
    bn (fX9_of z_s y2 2) fun v1 =>
    if v1 ≤ y4 then (
      some (y3, z_counter, z_held, z_values))
    else (
      bn (fX9_of z_s y2 (3 + y4)) fun v4 =>
      bn (fX9_valueFor z_s z_values y1 y2 y4) fun v5 =>
      lX9_run_46 z_s n z_counter z_held z_values y1 y2 (y3 + ((v4 + 1) * v5)) (y4 + 1))
theorem lX9_run_46_s (z_s : Nat → Int32) (n : Nat) (z_counter : Int32) (z_held : Nat → Int32) (z_values : Nat → Int32) (y1 : Int32) (y2 : Int32) (y3 : Int32) (y4 : Int32) : lX9_run_46 z_s (n + 1) z_counter z_held z_values y1 y2 y3 y4 =
    bn (fX9_of z_s y2 2) fun v1 =>
    if v1 ≤ y4 then (
      some (y3, z_counter, z_held, z_values))
    else (
      bn (fX9_of z_s y2 (3 + y4)) fun v4 =>
      bn (fX9_valueFor z_s z_values y1 y2 y4) fun v5 =>
      lX9_run_46 z_s n z_counter z_held z_values y1 y2 (y3 + ((v4 + 1) * v5)) (y4 + 1)) := rfl
def jX9_run_18 (z_s : Nat → Int32) (z_counter : Int32) (z_held : Nat → Int32) (z_values : Nat → Int32) (y1 : Int32) (s0 : Int32) : Option (Int32 × Int32 × (Nat → Int32) × (Nat → Int32)) :=
  if s0 = (-9) then (
    some (0, z_counter, z_held, z_values))
  else (
    bn3 (fX9_evaluateAll z_s z_counter z_held z_values y1) fun g2 g3 g4 =>
    bn (fX9_of z_s s0 0) fun v5 =>
    lX9_run_46 z_s 5000 g2 g3 g4 y1 s0 (1000 * v5) 0)
def fX9_run (z_s : Nat → Int32) (z_counter : Int32) (z_held : Nat → Int32) (z_values : Nat → Int32) (x1 : Int32) : Option (Int32 × Int32 × (Nat → Int32) × (Nat → Int32)) :=
  bn (fX9_isCall z_s x1) fun v1 =>
  if v1 = 0 then (
    jX9_run_18 z_s z_counter z_held z_values x1 (-9))
  else (
    bn (fX9_dispatched z_s x1) fun v4 =>
    jX9_run_18 z_s z_counter z_held z_values x1 v4)
def fX9_ticks (z_s : Nat → Int32) (z_counter : Int32) (z_held : Nat → Int32) (z_values : Nat → Int32) (x1 : Int32) : Option (Int32 × Int32 × (Nat → Int32) × (Nat → Int32)) :=
  bn (fX9_isCall z_s x1) fun v1 =>
  if v1 = 0 then (
    some ((-1), z_counter, z_held, z_values))
  else (
    bn3 (fX9_evaluateAll z_s z_counter z_held z_values x1) fun g4 g5 g6 =>
    some (g4, g4, g5, g6))
def fX9_argumentCount (z_s : Nat → Int32) (x1 : Int32) : Option (Int32) :=
  bn (fX9_isCall z_s x1) fun v1 =>
  if v1 = 0 then (
    some (-1))
  else (
    bn (fX9_at x1 4) fun v4 =>
    rd 467 z_s v4 fun v5 =>
    some v5)
def fX9_argumentKind (z_s : Nat → Int32) (x1 : Int32) (x2 : Int32) : Option (Int32) :=
  bn (fX9_isArgument z_s x1 x2) fun v1 =>
  if v1 = 0 then (
    some (-1))
  else (
    bn (fX9_at x1 (5 + x2)) fun v4 =>
    rd 467 z_s v4 fun v5 =>
    some v5)
def fX9_temporaryCount (z_s : Nat → Int32) (x1 : Int32) : Option (Int32) :=
  bn (fX9_isCall z_s x1) fun v1 =>
  if v1 = 0 then (
    some (-1))
  else (
    bn (fX9_at x1 20) fun v4 =>
    rd 467 z_s v4 fun v5 =>
    some v5)
def lX9_ones_4  : Nat → Int32 → Int32 → Int32 → Option (Int32)
  | 0, _, _, _ => none
  | n + 1, y0, y1, y2 =>
    if 16 ≤ y2 then (
      some y1)
    else (
      lX9_ones_4  n y0 (y1 + ((y0 >>> (y2 &&& 31)) &&& 1)) (y2 + 1))
theorem lX9_ones_4_s  (n : Nat) (y0 : Int32) (y1 : Int32) (y2 : Int32) : lX9_ones_4  (n + 1) y0 y1 y2 =
    if 16 ≤ y2 then (
      some y1)
    else (
      lX9_ones_4  n y0 (y1 + ((y0 >>> (y2 &&& 31)) &&& 1)) (y2 + 1)) := rfl
def fX9_ones  (x0 : Int32) : Option (Int32) :=
  lX9_ones_4  5000 x0 0 0
def fX9_startChange (z_s : Nat → Int32) (z_changed : Int32) (z_entries : Int32) (x1 : Int32) : Option (Int32 × Int32 × Int32) :=
  bn (fX9_isMethod z_s x1) fun v1 =>
  if v1 = 0 then (
    some ((-1), z_changed, z_entries))
  else (
    bn (fX9_familyOf z_s x1) fun v4 =>
    bn (fX9_ones v4) fun v6 =>
    some (v6, x1, 0))
def lX9_entryOf_2 (z_entries : Int32) (z_keeps : Nat → Int32) : Nat → Int32 → Int32 → Option (Int32)
  | 0, _, _ => none
  | n + 1, y1, y2 =>
    if z_entries ≤ y2 then (
      some (-9))
    else (
      rd 5 z_keeps y2 fun v2 =>
      if v2 = y1 then (
        some y2)
      else (
        lX9_entryOf_2 z_entries z_keeps n y1 (y2 + 1)))
theorem lX9_entryOf_2_s (z_entries : Int32) (z_keeps : Nat → Int32) (n : Nat) (y1 : Int32) (y2 : Int32) : lX9_entryOf_2 z_entries z_keeps (n + 1) y1 y2 =
    if z_entries ≤ y2 then (
      some (-9))
    else (
      rd 5 z_keeps y2 fun v2 =>
      if v2 = y1 then (
        some y2)
      else (
        lX9_entryOf_2 z_entries z_keeps n y1 (y2 + 1))) := rfl
def fX9_entryOf (z_entries : Int32) (z_keeps : Nat → Int32) (x1 : Int32) : Option (Int32) :=
  lX9_entryOf_2 z_entries z_keeps 5000 x1 0
def fX9_keepParameter (z_s : Nat → Int32) (z_changed : Int32) (z_entries : Int32) (z_keeps : Nat → Int32) (z_entryKey : Nat → Int32) (z_entryDefault : Nat → Int32) (x1 : Int32) : Option (Int32 × Int32 × (Nat → Int32) × (Nat → Int32) × (Nat → Int32)) :=
  if z_changed = (-9) then (
    some ((-2), z_entries, z_keeps, z_entryKey, z_entryDefault))
  else (
    bn (fX9_of z_s z_changed 2) fun v2 =>
    bn (fX9_in x1 0 (v2 - 1)) fun v4 =>
    if v4 = 0 then (
      some ((-1), z_entries, z_keeps, z_entryKey, z_entryDefault))
    else (
      bn (fX9_entryOf z_entries z_keeps x1) fun v6 =>
      if v6 = (-9) then (
        if z_entries = 5 then (
          some ((-3), z_entries, z_keeps, z_entryKey, z_entryDefault))
        else (
          wr 5 z_keeps z_entries x1 fun g9 =>
          bn (fX9_of z_s z_changed (3 + x1)) fun v10 =>
          wr 5 z_entryKey z_entries v10 fun g12 =>
          bn (fX9_of z_s z_changed (8 + x1)) fun v13 =>
          wr 5 z_entryDefault z_entries v13 fun g15 =>
          some (z_entries + 1, z_entries + 1, g9, g12, g15)))
      else (
        some ((-2), z_entries, z_keeps, z_entryKey, z_entryDefault))))
def jX9_isTaken_77 (z_s : Nat → Int32) (z_changed : Int32) (z_entries : Int32) (z_entryKey : Nat → Int32) (k50 : Int32 → Int32 → Int32 → Option (Int32)) (y1 : Int32) (y3 : Int32) (s0 : Int32) : Option (Int32) :=
  k50 y1 s0 (y3 + 1)
def jX9_isTaken_72 (z_s : Nat → Int32) (z_changed : Int32) (z_entries : Int32) (z_entryKey : Nat → Int32) (k50 : Int32 → Int32 → Int32 → Option (Int32)) (y1 : Int32) (y3 : Int32) : Option (Int32) :=
  jX9_isTaken_77 z_s z_changed z_entries z_entryKey k50 y1 y3 1
def lX9_isTaken_50 (z_s : Nat → Int32) (z_changed : Int32) (z_entries : Int32) (z_entryKey : Nat → Int32) : Nat → Int32 → Int32 → Int32 → Option (Int32)
  | 0, _, _, _ => none
  | n + 1, y1, y2, y3 =>
    if z_entries ≤ y3 then (
      rb y2)
    else (
      if y2 = 0 then (
        rd 5 z_entryKey y3 fun v3 =>
        if v3 = y1 then (
          jX9_isTaken_72 z_s z_changed z_entries z_entryKey (fun u1 u2 u3 => lX9_isTaken_50 z_s z_changed z_entries z_entryKey n u1 u2 u3) y1 y3)
        else (
          jX9_isTaken_77 z_s z_changed z_entries z_entryKey (fun u1 u2 u3 => lX9_isTaken_50 z_s z_changed z_entries z_entryKey n u1 u2 u3) y1 y3 0))
      else (
        jX9_isTaken_72 z_s z_changed z_entries z_entryKey (fun u1 u2 u3 => lX9_isTaken_50 z_s z_changed z_entries z_entryKey n u1 u2 u3) y1 y3))
theorem lX9_isTaken_50_s (z_s : Nat → Int32) (z_changed : Int32) (z_entries : Int32) (z_entryKey : Nat → Int32) (n : Nat) (y1 : Int32) (y2 : Int32) (y3 : Int32) : lX9_isTaken_50 z_s z_changed z_entries z_entryKey (n + 1) y1 y2 y3 =
    if z_entries ≤ y3 then (
      rb y2)
    else (
      if y2 = 0 then (
        rd 5 z_entryKey y3 fun v3 =>
        if v3 = y1 then (
          jX9_isTaken_72 z_s z_changed z_entries z_entryKey (fun u1 u2 u3 => lX9_isTaken_50 z_s z_changed z_entries z_entryKey n u1 u2 u3) y1 y3)
        else (
          jX9_isTaken_77 z_s z_changed z_entries z_entryKey (fun u1 u2 u3 => lX9_isTaken_50 z_s z_changed z_entries z_entryKey n u1 u2 u3) y1 y3 0))
      else (
        jX9_isTaken_72 z_s z_changed z_entries z_entryKey (fun u1 u2 u3 => lX9_isTaken_50 z_s z_changed z_entries z_entryKey n u1 u2 u3) y1 y3)) := rfl
def jX9_isTaken_41 (z_s : Nat → Int32) (z_changed : Int32) (z_entries : Int32) (z_entryKey : Nat → Int32) (k4 : Int32 → Int32 → Int32 → Option (Int32)) (y1 : Int32) (y3 : Int32) (s0 : Int32) : Option (Int32) :=
  k4 y1 s0 (y3 + 1)
def jX9_isTaken_36 (z_s : Nat → Int32) (z_changed : Int32) (z_entries : Int32) (z_entryKey : Nat → Int32) (k4 : Int32 → Int32 → Int32 → Option (Int32)) (y1 : Int32) (y3 : Int32) : Option (Int32) :=
  jX9_isTaken_41 z_s z_changed z_entries z_entryKey k4 y1 y3 1
def lX9_isTaken_4 (z_s : Nat → Int32) (z_changed : Int32) (z_entries : Int32) (z_entryKey : Nat → Int32) : Nat → Int32 → Int32 → Int32 → Option (Int32)
  | 0, _, _, _ => none
  | n + 1, y1, y2, y3 =>
    bn (fX9_of z_s z_changed 2) fun v1 =>
    if v1 ≤ y3 then (
      lX9_isTaken_50 z_s z_changed z_entries z_entryKey 5000 y1 y2 0)
    else (
      if y2 = 0 then (
        bn (fX9_of z_s z_changed (3 + y3)) fun v5 =>
        if v5 = y1 then (
          jX9_isTaken_36 z_s z_changed z_entries z_entryKey (fun u1 u2 u3 => lX9_isTaken_4 z_s z_changed z_entries z_entryKey n u1 u2 u3) y1 y3)
        else (
          jX9_isTaken_41 z_s z_changed z_entries z_entryKey (fun u1 u2 u3 => lX9_isTaken_4 z_s z_changed z_entries z_entryKey n u1 u2 u3) y1 y3 0))
      else (
        jX9_isTaken_36 z_s z_changed z_entries z_entryKey (fun u1 u2 u3 => lX9_isTaken_4 z_s z_changed z_entries z_entryKey n u1 u2 u3) y1 y3))
theorem lX9_isTaken_4_s (z_s : Nat → Int32) (z_changed : Int32) (z_entries : Int32) (z_entryKey : Nat → Int32) (n : Nat) (y1 : Int32) (y2 : Int32) (y3 : Int32) : lX9_isTaken_4 z_s z_changed z_entries z_entryKey (n + 1) y1 y2 y3 =
    bn (fX9_of z_s z_changed 2) fun v1 =>
    if v1 ≤ y3 then (
      lX9_isTaken_50 z_s z_changed z_entries z_entryKey 5000 y1 y2 0)
    else (
      if y2 = 0 then (
        bn (fX9_of z_s z_changed (3 + y3)) fun v5 =>
        if v5 = y1 then (
          jX9_isTaken_36 z_s z_changed z_entries z_entryKey (fun u1 u2 u3 => lX9_isTaken_4 z_s z_changed z_entries z_entryKey n u1 u2 u3) y1 y3)
        else (
          jX9_isTaken_41 z_s z_changed z_entries z_entryKey (fun u1 u2 u3 => lX9_isTaken_4 z_s z_changed z_entries z_entryKey n u1 u2 u3) y1 y3 0))
      else (
        jX9_isTaken_36 z_s z_changed z_entries z_entryKey (fun u1 u2 u3 => lX9_isTaken_4 z_s z_changed z_entries z_entryKey n u1 u2 u3) y1 y3)) := rfl
def fX9_isTaken (z_s : Nat → Int32) (z_changed : Int32) (z_entries : Int32) (z_entryKey : Nat → Int32) (x1 : Int32) : Option (Int32) :=
  lX9_isTaken_4 z_s z_changed z_entries z_entryKey 5000 x1 0 0
def lX9_insertParameter_38 (z_s : Nat → Int32) (z_changed : Int32) : Nat → (Int32) → (Nat → Int32) → (Nat → Int32) → (Nat → Int32) → Int32 → Int32 → Option (Int32 × Int32 × (Nat → Int32) × (Nat → Int32) × (Nat → Int32))
  | 0, _, _, _, _, _, _ => none
  | n + 1, z_entries, z_keeps, z_entryKey, z_entryDefault, y1, y2 =>
    bn (fX9_isTaken z_s z_changed z_entries z_entryKey y2) fun v1 =>
    if v1 = 0 then (
      wr 5 z_keeps z_entries (-9) fun g4 =>
      wr 5 z_entryKey z_entries y2 fun g5 =>
      wr 5 z_entryDefault z_entries y1 fun g6 =>
      some (y2, z_entries + 1, g4, g5, g6))
    else (
      lX9_insertParameter_38 z_s z_changed n z_entries z_keeps z_entryKey z_entryDefault y1 (y2 + 1))
theorem lX9_insertParameter_38_s (z_s : Nat → Int32) (z_changed : Int32) (n : Nat) (z_entries : Int32) (z_keeps : Nat → Int32) (z_entryKey : Nat → Int32) (z_entryDefault : Nat → Int32) (y1 : Int32) (y2 : Int32) : lX9_insertParameter_38 z_s z_changed (n + 1) z_entries z_keeps z_entryKey z_entryDefault y1 y2 =
    bn (fX9_isTaken z_s z_changed z_entries z_entryKey y2) fun v1 =>
    if v1 = 0 then (
      wr 5 z_keeps z_entries (-9) fun g4 =>
      wr 5 z_entryKey z_entries y2 fun g5 =>
      wr 5 z_entryDefault z_entries y1 fun g6 =>
      some (y2, z_entries + 1, g4, g5, g6))
    else (
      lX9_insertParameter_38 z_s z_changed n z_entries z_keeps z_entryKey z_entryDefault y1 (y2 + 1)) := rfl
def fX9_insertParameter (z_s : Nat → Int32) (z_changed : Int32) (z_entries : Int32) (z_keeps : Nat → Int32) (z_entryKey : Nat → Int32) (z_entryDefault : Nat → Int32) (x1 : Int32) : Option (Int32 × Int32 × (Nat → Int32) × (Nat → Int32) × (Nat → Int32)) :=
  bn (fX9_in x1 (-99) 99) fun v1 =>
  if v1 = 0 then (
    some ((-1), z_entries, z_keeps, z_entryKey, z_entryDefault))
  else (
    if z_changed = (-9) then (
      some ((-2), z_entries, z_keeps, z_entryKey, z_entryDefault))
    else (
      if z_entries = 5 then (
        some ((-3), z_entries, z_keeps, z_entryKey, z_entryDefault))
      else (
        lX9_insertParameter_38 z_s z_changed 5000 z_entries z_keeps z_entryKey z_entryDefault x1 0)))
def jX9_clashes_86 (z_s : Nat → Int32) (z_changed : Int32) (z_entries : Int32) (k36 : Int32 → Int32 → Int32 → Int32 → Option (Int32)) (y1 : Int32) (y2 : Int32) (y4 : Int32) (s0 : Int32) : Option (Int32) :=
  k36 y1 y2 s0 (y4 + 1)
def jX9_clashes_81 (z_s : Nat → Int32) (z_changed : Int32) (z_entries : Int32) (k36 : Int32 → Int32 → Int32 → Int32 → Option (Int32)) (y1 : Int32) (y2 : Int32) (y4 : Int32) : Option (Int32) :=
  jX9_clashes_86 z_s z_changed z_entries k36 y1 y2 y4 1
def jX9_clashes_85 (z_s : Nat → Int32) (z_changed : Int32) (z_entries : Int32) (k36 : Int32 → Int32 → Int32 → Int32 → Option (Int32)) (y1 : Int32) (y2 : Int32) (y4 : Int32) : Option (Int32) :=
  jX9_clashes_86 z_s z_changed z_entries k36 y1 y2 y4 0
def lX9_clashes_36 (z_s : Nat → Int32) (z_changed : Int32) (z_entries : Int32) : Nat → Int32 → Int32 → Int32 → Int32 → Option (Int32)
  | 0, _, _, _, _ => none
  | n + 1, y1, y2, y3, y4 =>
    rd 467 z_s 25 fun v1 =>
    if v1 ≤ y4 then (
      rb y3)
    else (
      if y3 = 0 then (
        bn (fX9_has y2 y4) fun v4 =>
        if v4 = 0 then (
          jX9_clashes_85 z_s z_changed z_entries (fun u1 u2 u3 u4 => lX9_clashes_36 z_s z_changed z_entries n u1 u2 u3 u4) y1 y2 y4)
        else (
          bn (fX9_of z_s y1 0) fun v6 =>
          bn (fX9_of z_s y4 0) fun v8 =>
          bn (fX9_areConnected z_s v6 v8) fun v9 =>
          if v9 = 0 then (
            jX9_clashes_85 z_s z_changed z_entries (fun u1 u2 u3 u4 => lX9_clashes_36 z_s z_changed z_entries n u1 u2 u3 u4) y1 y2 y4)
          else (
            jX9_clashes_81 z_s z_changed z_entries (fun u1 u2 u3 u4 => lX9_clashes_36 z_s z_changed z_entries n u1 u2 u3 u4) y1 y2 y4)))
      else (
        jX9_clashes_81 z_s z_changed z_entries (fun u1 u2 u3 u4 => lX9_clashes_36 z_s z_changed z_entries n u1 u2 u3 u4) y1 y2 y4))
theorem lX9_clashes_36_s (z_s : Nat → Int32) (z_changed : Int32) (z_entries : Int32) (n : Nat) (y1 : Int32) (y2 : Int32) (y3 : Int32) (y4 : Int32) : lX9_clashes_36 z_s z_changed z_entries (n + 1) y1 y2 y3 y4 =
    rd 467 z_s 25 fun v1 =>
    if v1 ≤ y4 then (
      rb y3)
    else (
      if y3 = 0 then (
        bn (fX9_has y2 y4) fun v4 =>
        if v4 = 0 then (
          jX9_clashes_85 z_s z_changed z_entries (fun u1 u2 u3 u4 => lX9_clashes_36 z_s z_changed z_entries n u1 u2 u3 u4) y1 y2 y4)
        else (
          bn (fX9_of z_s y1 0) fun v6 =>
          bn (fX9_of z_s y4 0) fun v8 =>
          bn (fX9_areConnected z_s v6 v8) fun v9 =>
          if v9 = 0 then (
            jX9_clashes_85 z_s z_changed z_entries (fun u1 u2 u3 u4 => lX9_clashes_36 z_s z_changed z_entries n u1 u2 u3 u4) y1 y2 y4)
          else (
            jX9_clashes_81 z_s z_changed z_entries (fun u1 u2 u3 u4 => lX9_clashes_36 z_s z_changed z_entries n u1 u2 u3 u4) y1 y2 y4)))
      else (
        jX9_clashes_81 z_s z_changed z_entries (fun u1 u2 u3 u4 => lX9_clashes_36 z_s z_changed z_entries n u1 u2 u3 u4) y1 y2 y4)) := rfl
def fX9_clashes (z_s : Nat → Int32) (z_changed : Int32) (z_entries : Int32) (x1 : Int32) (x2 : Int32) : Option (Int32) :=
  bn (fX9_has x2 x1) fun v1 =>
  if v1 = 0 then (
    bn (fX9_of z_s z_changed 1) fun v3 =>
    bn (fX9_isNamed z_s x1 v3 z_entries) fun v5 =>
    if v5 = 0 then (
      some 0)
    else (
      lX9_clashes_36 z_s z_changed z_entries 5000 x1 x2 0 0))
  else (
    some 0)
def lX9_clash_11 (z_s : Nat → Int32) (z_changed : Int32) (z_entries : Int32) : Nat → Int32 → Int32 → Option (Int32)
  | 0, _, _ => none
  | n + 1, y1, y2 =>
    rd 467 z_s 25 fun v1 =>
    if v1 ≤ y2 then (
      some (-9))
    else (
      bn (fX9_clashes z_s z_changed z_entries y2 y1) fun v3 =>
      if v3 = 0 then (
        lX9_clash_11 z_s z_changed z_entries n y1 (y2 + 1))
      else (
        some y2))
theorem lX9_clash_11_s (z_s : Nat → Int32) (z_changed : Int32) (z_entries : Int32) (n : Nat) (y1 : Int32) (y2 : Int32) : lX9_clash_11 z_s z_changed z_entries (n + 1) y1 y2 =
    rd 467 z_s 25 fun v1 =>
    if v1 ≤ y2 then (
      some (-9))
    else (
      bn (fX9_clashes z_s z_changed z_entries y2 y1) fun v3 =>
      if v3 = 0 then (
        lX9_clash_11 z_s z_changed z_entries n y1 (y2 + 1))
      else (
        some y2)) := rfl
def fX9_clash (z_s : Nat → Int32) (z_changed : Int32) (z_entries : Int32) : Option (Int32) :=
  bn (fX9_familyOf z_s z_changed) fun v1 =>
  lX9_clash_11 z_s z_changed z_entries 5000 v1 0
def fX9_clashingMethod (z_s : Nat → Int32) (z_changed : Int32) (z_entries : Int32) : Option (Int32) :=
  if z_changed = (-9) then (
    some (-2))
  else (
    bn (fX9_clash z_s z_changed z_entries) fun v2 =>
    some v2)
def fX9_isConcerned (z_s : Nat → Int32) (z_changed : Int32) (x1 : Int32) : Option (Int32) :=
  bn (fX9_familyOf z_s z_changed) fun v1 =>
  bn (fX9_at x1 2) fun v3 =>
  rd 467 z_s v3 fun v4 =>
  bn (fX9_has v1 v4) fun v5 =>
  rb v5
def fX9_kindOf (z_s : Nat → Int32) (x1 : Int32) (x2 : Int32) : Option (Int32) :=
  bn (fX9_at x1 (5 + x2)) fun v1 =>
  rd 467 z_s v1 fun v3 =>
  some v3
def fX9_doesCount (z_s : Nat → Int32) (x1 : Int32) (x2 : Int32) : Option (Int32) :=
  bn (fX9_kindOf z_s x1 x2) fun v1 =>
  if v1 = 1 then (
    some 1)
  else (
    bn (fX9_kindOf z_s x1 x2) fun v4 =>
    if v4 = 2 then (
      some 1)
    else (
      some 0))
def fX9_turnOf (z_entries : Int32) (z_keeps : Nat → Int32) (x1 : Int32) (x2 : Int32) : Option (Int32) :=
  bn (fX9_has x2 x1) fun v1 =>
  if v1 = 0 then (
    bn (fX9_entryOf z_entries z_keeps x1) fun v3 =>
    if v3 = (-9) then (
      some (-9))
    else (
      bn (fX9_entryOf z_entries z_keeps x1) fun v6 =>
      some (10 + v6)))
  else (
    some x1)
def jX9_mayHoist_246 (z_s : Nat → Int32) (z_entries : Int32) (z_keeps : Nat → Int32) (k18 : Int32 → Int32 → Int32 → Int32 → Int32 → Option (Int32)) (k122 : Int32 → Int32 → Int32 → Int32 → Int32 → Int32 → Option (Int32)) (y1 : Int32) (y2 : Int32) (y3 : Int32) (y5 : Int32) (y8 : Int32) (s0 : Int32) : Option (Int32) :=
  k122 y1 y2 y3 s0 y5 (y8 + 1)
def jX9_mayHoist_245 (z_s : Nat → Int32) (z_entries : Int32) (z_keeps : Nat → Int32) (k18 : Int32 → Int32 → Int32 → Int32 → Int32 → Option (Int32)) (k122 : Int32 → Int32 → Int32 → Int32 → Int32 → Int32 → Option (Int32)) (y1 : Int32) (y2 : Int32) (y3 : Int32) (y5 : Int32) (y8 : Int32) : Option (Int32) :=
  jX9_mayHoist_246 z_s z_entries z_keeps k18 k122 y1 y2 y3 y5 y8 0
def jX9_mayHoist_241 (z_s : Nat → Int32) (z_entries : Int32) (z_keeps : Nat → Int32) (k18 : Int32 → Int32 → Int32 → Int32 → Int32 → Option (Int32)) (k122 : Int32 → Int32 → Int32 → Int32 → Int32 → Int32 → Option (Int32)) (y1 : Int32) (y2 : Int32) (y3 : Int32) (y5 : Int32) (y8 : Int32) : Option (Int32) :=
  jX9_mayHoist_246 z_s z_entries z_keeps k18 k122 y1 y2 y3 y5 y8 1
def jX9_mayHoist_207 (z_s : Nat → Int32) (z_entries : Int32) (z_keeps : Nat → Int32) (k18 : Int32 → Int32 → Int32 → Int32 → Int32 → Option (Int32)) (k122 : Int32 → Int32 → Int32 → Int32 → Int32 → Int32 → Option (Int32)) (y1 : Int32) (y2 : Int32) (y3 : Int32) (y4 : Int32) (y5 : Int32) (y8 : Int32) (y9 : Int32) (s0 : Int32) : Option (Int32) :=
  if y4 = 0 then (
    jX9_mayHoist_245 z_s z_entries z_keeps k18 k122 y1 y2 y3 y5 y8)
  else (
    if y9 = 0 then (
      jX9_mayHoist_241 z_s z_entries z_keeps k18 k122 y1 y2 y3 y5 y8)
    else (
      if s0 = 0 then (
        jX9_mayHoist_241 z_s z_entries z_keeps k18 k122 y1 y2 y3 y5 y8)
      else (
        bn (fX9_turnOf z_entries z_keeps y8 y2) fun v4 =>
        bn (fX9_turnOf z_entries z_keeps y5 y2) fun v6 =>
        if v6 ≤ v4 then (
          jX9_mayHoist_245 z_s z_entries z_keeps k18 k122 y1 y2 y3 y5 y8)
        else (
          jX9_mayHoist_241 z_s z_entries z_keeps k18 k122 y1 y2 y3 y5 y8))))
def jX9_mayHoist_206 (z_s : Nat → Int32) (z_entries : Int32) (z_keeps : Nat → Int32) (k18 : Int32 → Int32 → Int32 → Int32 → Int32 → Option (Int32)) (k122 : Int32 → Int32 → Int32 → Int32 → Int32 → Int32 → Option (Int32)) (y1 : Int32) (y2 : Int32) (y3 : Int32) (y4 : Int32) (y5 : Int32) (y8 : Int32) (y9 : Int32) : Option (Int32) :=
  jX9_mayHoist_207 z_s z_entries z_keeps k18 k122 y1 y2 y3 y4 y5 y8 y9 0
def jX9_mayHoist_176 (z_s : Nat → Int32) (z_entries : Int32) (z_keeps : Nat → Int32) (k18 : Int32 → Int32 → Int32 → Int32 → Int32 → Option (Int32)) (k122 : Int32 → Int32 → Int32 → Int32 → Int32 → Int32 → Option (Int32)) (y1 : Int32) (y2 : Int32) (y3 : Int32) (y4 : Int32) (y5 : Int32) (y8 : Int32) (s0 : Int32) : Option (Int32) :=
  bn (fX9_turnOf z_entries z_keeps y5 y2) fun v1 =>
  if v1 = (-9) then (
    jX9_mayHoist_206 z_s z_entries z_keeps k18 k122 y1 y2 y3 y4 y5 y8 s0)
  else (
    bn (fX9_turnOf z_entries z_keeps y8 y2) fun v4 =>
    if v4 = (-9) then (
      jX9_mayHoist_206 z_s z_entries z_keeps k18 k122 y1 y2 y3 y4 y5 y8 s0)
    else (
      jX9_mayHoist_207 z_s z_entries z_keeps k18 k122 y1 y2 y3 y4 y5 y8 s0 1))
def jX9_mayHoist_175 (z_s : Nat → Int32) (z_entries : Int32) (z_keeps : Nat → Int32) (k18 : Int32 → Int32 → Int32 → Int32 → Int32 → Option (Int32)) (k122 : Int32 → Int32 → Int32 → Int32 → Int32 → Int32 → Option (Int32)) (y1 : Int32) (y2 : Int32) (y3 : Int32) (y4 : Int32) (y5 : Int32) (y8 : Int32) : Option (Int32) :=
  jX9_mayHoist_176 z_s z_entries z_keeps k18 k122 y1 y2 y3 y4 y5 y8 0
def jX9_mayHoist_171 (z_s : Nat → Int32) (z_entries : Int32) (z_keeps : Nat → Int32) (k18 : Int32 → Int32 → Int32 → Int32 → Int32 → Option (Int32)) (k122 : Int32 → Int32 → Int32 → Int32 → Int32 → Int32 → Option (Int32)) (y1 : Int32) (y2 : Int32) (y3 : Int32) (y4 : Int32) (y5 : Int32) (y8 : Int32) : Option (Int32) :=
  jX9_mayHoist_176 z_s z_entries z_keeps k18 k122 y1 y2 y3 y4 y5 y8 1
def lX9_mayHoist_122 (z_s : Nat → Int32) (z_entries : Int32) (z_keeps : Nat → Int32) (k18 : Int32 → Int32 → Int32 → Int32 → Int32 → Option (Int32)) : Nat → Int32 → Int32 → Int32 → Int32 → Int32 → Int32 → Option (Int32)
  | 0, _, _, _, _, _, _ => none
  | n + 1, y1, y2, y3, y4, y5, y8 =>
    if y5 ≤ y8 then (
      k18 y1 y2 y3 y4 (y5 + 1))
    else (
      bn (fX9_doesCount z_s y1 y5) fun v2 =>
      if v2 = 0 then (
        jX9_mayHoist_175 z_s z_entries z_keeps k18 (fun u1 u2 u3 u4 u5 u8 => lX9_mayHoist_122 z_s z_entries z_keeps k18 n u1 u2 u3 u4 u5 u8) y1 y2 y3 y4 y5 y8)
      else (
        bn (fX9_doesCount z_s y1 y8) fun v5 =>
        if v5 = 0 then (
          jX9_mayHoist_175 z_s z_entries z_keeps k18 (fun u1 u2 u3 u4 u5 u8 => lX9_mayHoist_122 z_s z_entries z_keeps k18 n u1 u2 u3 u4 u5 u8) y1 y2 y3 y4 y5 y8)
        else (
          bn (fX9_kindOf z_s y1 y5) fun v7 =>
          if v7 = 2 then (
            jX9_mayHoist_171 z_s z_entries z_keeps k18 (fun u1 u2 u3 u4 u5 u8 => lX9_mayHoist_122 z_s z_entries z_keeps k18 n u1 u2 u3 u4 u5 u8) y1 y2 y3 y4 y5 y8)
          else (
            bn (fX9_kindOf z_s y1 y8) fun v9 =>
            if v9 = 2 then (
              jX9_mayHoist_171 z_s z_entries z_keeps k18 (fun u1 u2 u3 u4 u5 u8 => lX9_mayHoist_122 z_s z_entries z_keeps k18 n u1 u2 u3 u4 u5 u8) y1 y2 y3 y4 y5 y8)
            else (
              jX9_mayHoist_175 z_s z_entries z_keeps k18 (fun u1 u2 u3 u4 u5 u8 => lX9_mayHoist_122 z_s z_entries z_keeps k18 n u1 u2 u3 u4 u5 u8) y1 y2 y3 y4 y5 y8)))))
theorem lX9_mayHoist_122_s (z_s : Nat → Int32) (z_entries : Int32) (z_keeps : Nat → Int32) (k18 : Int32 → Int32 → Int32 → Int32 → Int32 → Option (Int32)) (n : Nat) (y1 : Int32) (y2 : Int32) (y3 : Int32) (y4 : Int32) (y5 : Int32) (y8 : Int32) : lX9_mayHoist_122 z_s z_entries z_keeps k18 (n + 1) y1 y2 y3 y4 y5 y8 =
    if y5 ≤ y8 then (
      k18 y1 y2 y3 y4 (y5 + 1))
    else (
      bn (fX9_doesCount z_s y1 y5) fun v2 =>
      if v2 = 0 then (
        jX9_mayHoist_175 z_s z_entries z_keeps k18 (fun u1 u2 u3 u4 u5 u8 => lX9_mayHoist_122 z_s z_entries z_keeps k18 n u1 u2 u3 u4 u5 u8) y1 y2 y3 y4 y5 y8)
      else (
        bn (fX9_doesCount z_s y1 y8) fun v5 =>
        if v5 = 0 then (
          jX9_mayHoist_175 z_s z_entries z_keeps k18 (fun u1 u2 u3 u4 u5 u8 => lX9_mayHoist_122 z_s z_entries z_keeps k18 n u1 u2 u3 u4 u5 u8) y1 y2 y3 y4 y5 y8)
        else (
          bn (fX9_kindOf z_s y1 y5) fun v7 =>
          if v7 = 2 then (
            jX9_mayHoist_171 z_s z_entries z_keeps k18 (fun u1 u2 u3 u4 u5 u8 => lX9_mayHoist_122 z_s z_entries z_keeps k18 n u1 u2 u3 u4 u5 u8) y1 y2 y3 y4 y5 y8)
          else (
            bn (fX9_kindOf z_s y1 y8) fun v9 =>
            if v9 = 2 then (
              jX9_mayHoist_171 z_s z_entries z_keeps k18 (fun u1 u2 u3 u4 u5 u8 => lX9_mayHoist_122 z_s z_entries z_keeps k18 n u1 u2 u3 u4 u5 u8) y1 y2 y3 y4 y5 y8)
            else (
              jX9_mayHoist_175 z_s z_entries z_keeps k18 (fun u1 u2 u3 u4 u5 u8 => lX9_mayHoist_122 z_s z_entries z_keeps k18 n u1 u2 u3 u4 u5 u8) y1 y2 y3 y4 y5 y8))))) := rfl
def jX9_mayHoist_117 (z_s : Nat → Int32) (z_entries : Int32) (z_keeps : Nat → Int32) (k18 : Int32 → Int32 → Int32 → Int32 → Int32 → Option (Int32)) (y1 : Int32) (y2 : Int32) (y3 : Int32) (y5 : Int32) (s0 : Int32) : Option (Int32) :=
  lX9_mayHoist_122 z_s z_entries z_keeps k18 5000 y1 y2 y3 s0 y5 0
def jX9_mayHoist_116 (z_s : Nat → Int32) (z_entries : Int32) (z_keeps : Nat → Int32) (k18 : Int32 → Int32 → Int32 → Int32 → Int32 → Option (Int32)) (y1 : Int32) (y2 : Int32) (y3 : Int32) (y5 : Int32) : Option (Int32) :=
  jX9_mayHoist_117 z_s z_entries z_keeps k18 y1 y2 y3 y5 0
def jX9_mayHoist_112 (z_s : Nat → Int32) (z_entries : Int32) (z_keeps : Nat → Int32) (k18 : Int32 → Int32 → Int32 → Int32 → Int32 → Option (Int32)) (y1 : Int32) (y2 : Int32) (y3 : Int32) (y5 : Int32) : Option (Int32) :=
  jX9_mayHoist_117 z_s z_entries z_keeps k18 y1 y2 y3 y5 1
def jX9_mayHoist_91 (z_s : Nat → Int32) (z_entries : Int32) (z_keeps : Nat → Int32) (k18 : Int32 → Int32 → Int32 → Int32 → Int32 → Option (Int32)) (y1 : Int32) (y2 : Int32) (y3 : Int32) (y5 : Int32) (y6 : Int32) (y7 : Int32) : Option (Int32) :=
  bn (fX9_kindOf z_s y1 y5) fun v1 =>
  if v1 = 1 then (
    if y6 = 0 then (
      jX9_mayHoist_112 z_s z_entries z_keeps k18 y1 y2 y3 y5)
    else (
      if y7 = 0 then (
        jX9_mayHoist_112 z_s z_entries z_keeps k18 y1 y2 y3 y5)
      else (
        jX9_mayHoist_116 z_s z_entries z_keeps k18 y1 y2 y3 y5)))
  else (
    jX9_mayHoist_112 z_s z_entries z_keeps k18 y1 y2 y3 y5)
def jX9_mayHoist_70 (z_s : Nat → Int32) (z_entries : Int32) (z_keeps : Nat → Int32) (k18 : Int32 → Int32 → Int32 → Int32 → Int32 → Option (Int32)) (y1 : Int32) (y2 : Int32) (y3 : Int32) (y5 : Int32) (y6 : Int32) (y7 : Int32) : Option (Int32) :=
  bn (fX9_kindOf z_s y1 y5) fun v1 =>
  if v1 = 2 then (
    if y6 = 0 then (
      jX9_mayHoist_91 z_s z_entries z_keeps k18 y1 y2 y3 y5 y6 y7)
    else (
      if y7 = 0 then (
        jX9_mayHoist_116 z_s z_entries z_keeps k18 y1 y2 y3 y5)
      else (
        jX9_mayHoist_91 z_s z_entries z_keeps k18 y1 y2 y3 y5 y6 y7)))
  else (
    jX9_mayHoist_91 z_s z_entries z_keeps k18 y1 y2 y3 y5 y6 y7)
def jX9_mayHoist_40 (z_s : Nat → Int32) (z_entries : Int32) (z_keeps : Nat → Int32) (k18 : Int32 → Int32 → Int32 → Int32 → Int32 → Option (Int32)) (y1 : Int32) (y2 : Int32) (y3 : Int32) (y4 : Int32) (y5 : Int32) (s0 : Int32) : Option (Int32) :=
  bn (fX9_has y2 y5) fun v1 =>
  if y4 = 0 then (
    jX9_mayHoist_116 z_s z_entries z_keeps k18 y1 y2 y3 y5)
  else (
    if v1 = 0 then (
      jX9_mayHoist_70 z_s z_entries z_keeps k18 y1 y2 y3 y5 s0 v1)
    else (
      bn (fX9_doesCount z_s y1 y5) fun v4 =>
      if v4 = 0 then (
        jX9_mayHoist_116 z_s z_entries z_keeps k18 y1 y2 y3 y5)
      else (
        jX9_mayHoist_70 z_s z_entries z_keeps k18 y1 y2 y3 y5 s0 v1)))
def lX9_mayHoist_18 (z_s : Nat → Int32) (z_entries : Int32) (z_keeps : Nat → Int32) : Nat → Int32 → Int32 → Int32 → Int32 → Int32 → Option (Int32)
  | 0, _, _, _, _, _ => none
  | n + 1, y1, y2, y3, y4, y5 =>
    if y3 ≤ y5 then (
      rb y4)
    else (
      bn (fX9_entryOf z_entries z_keeps y5) fun v2 =>
      if v2 = (-9) then (
        jX9_mayHoist_40 z_s z_entries z_keeps (fun u1 u2 u3 u4 u5 => lX9_mayHoist_18 z_s z_entries z_keeps n u1 u2 u3 u4 u5) y1 y2 y3 y4 y5 1)
      else (
        jX9_mayHoist_40 z_s z_entries z_keeps (fun u1 u2 u3 u4 u5 => lX9_mayHoist_18 z_s z_entries z_keeps n u1 u2 u3 u4 u5) y1 y2 y3 y4 y5 0))
theorem lX9_mayHoist_18_s (z_s : Nat → Int32) (z_entries : Int32) (z_keeps : Nat → Int32) (n : Nat) (y1 : Int32) (y2 : Int32) (y3 : Int32) (y4 : Int32) (y5 : Int32) : lX9_mayHoist_18 z_s z_entries z_keeps (n + 1) y1 y2 y3 y4 y5 =
    if y3 ≤ y5 then (
      rb y4)
    else (
      bn (fX9_entryOf z_entries z_keeps y5) fun v2 =>
      if v2 = (-9) then (
        jX9_mayHoist_40 z_s z_entries z_keeps (fun u1 u2 u3 u4 u5 => lX9_mayHoist_18 z_s z_entries z_keeps n u1 u2 u3 u4 u5) y1 y2 y3 y4 y5 1)
      else (
        jX9_mayHoist_40 z_s z_entries z_keeps (fun u1 u2 u3 u4 u5 => lX9_mayHoist_18 z_s z_entries z_keeps n u1 u2 u3 u4 u5) y1 y2 y3 y4 y5 0)) := rfl
def fX9_mayHoist (z_s : Nat → Int32) (z_entries : Int32) (z_keeps : Nat → Int32) (x1 : Int32) (x2 : Int32) : Option (Int32) :=
  bn (fX9_at x1 4) fun v1 =>
  rd 467 z_s v1 fun v3 =>
  lX9_mayHoist_18 z_s z_entries z_keeps 5000 x1 x2 v3 1 0
def jX9_hoistedOf_65 (z_s : Nat → Int32) (z_entries : Int32) (z_keeps : Nat → Int32) (k5 : Int32 → Int32 → Int32 → Option (Int32)) (y1 : Int32) (y3 : Int32) (s0 : Int32) : Option (Int32) :=
  k5 y1 s0 (y3 + 1)
def jX9_hoistedOf_64 (z_s : Nat → Int32) (z_entries : Int32) (z_keeps : Nat → Int32) (k5 : Int32 → Int32 → Int32 → Option (Int32)) (y1 : Int32) (y2 : Int32) (y3 : Int32) : Option (Int32) :=
  jX9_hoistedOf_65 z_s z_entries z_keeps k5 y1 y3 y2
def jX9_hoistedOf_44 (z_s : Nat → Int32) (z_entries : Int32) (z_keeps : Nat → Int32) (k5 : Int32 → Int32 → Int32 → Option (Int32)) (y1 : Int32) (y2 : Int32) (y3 : Int32) (s0 : Int32) : Option (Int32) :=
  if s0 = 0 then (
    jX9_hoistedOf_64 z_s z_entries z_keeps k5 y1 y2 y3)
  else (
    bn (fX9_mayHoist z_s z_entries z_keeps y1 y3) fun v2 =>
    if v2 = 0 then (
      jX9_hoistedOf_64 z_s z_entries z_keeps k5 y1 y2 y3)
    else (
      jX9_hoistedOf_65 z_s z_entries z_keeps k5 y1 y3 y3))
def jX9_hoistedOf_39 (z_s : Nat → Int32) (z_entries : Int32) (z_keeps : Nat → Int32) (k5 : Int32 → Int32 → Int32 → Option (Int32)) (y1 : Int32) (y2 : Int32) (y3 : Int32) : Option (Int32) :=
  jX9_hoistedOf_44 z_s z_entries z_keeps k5 y1 y2 y3 1
def lX9_hoistedOf_5 (z_s : Nat → Int32) (z_entries : Int32) (z_keeps : Nat → Int32) : Nat → Int32 → Int32 → Int32 → Option (Int32)
  | 0, _, _, _ => none
  | n + 1, y1, y2, y3 =>
    bn (fX9_at y1 4) fun v1 =>
    rd 467 z_s v1 fun v3 =>
    if (1 <<< (v3 &&& 31)) ≤ y3 then (
      some y2)
    else (
      if y2 = (-9) then (
        jX9_hoistedOf_39 z_s z_entries z_keeps (fun u1 u2 u3 => lX9_hoistedOf_5 z_s z_entries z_keeps n u1 u2 u3) y1 y2 y3)
      else (
        bn (fX9_ones y3) fun v6 =>
        bn (fX9_ones y2) fun v7 =>
        if v7 ≤ v6 then (
          jX9_hoistedOf_44 z_s z_entries z_keeps (fun u1 u2 u3 => lX9_hoistedOf_5 z_s z_entries z_keeps n u1 u2 u3) y1 y2 y3 0)
        else (
          jX9_hoistedOf_39 z_s z_entries z_keeps (fun u1 u2 u3 => lX9_hoistedOf_5 z_s z_entries z_keeps n u1 u2 u3) y1 y2 y3)))
theorem lX9_hoistedOf_5_s (z_s : Nat → Int32) (z_entries : Int32) (z_keeps : Nat → Int32) (n : Nat) (y1 : Int32) (y2 : Int32) (y3 : Int32) : lX9_hoistedOf_5 z_s z_entries z_keeps (n + 1) y1 y2 y3 =
    bn (fX9_at y1 4) fun v1 =>
    rd 467 z_s v1 fun v3 =>
    if (1 <<< (v3 &&& 31)) ≤ y3 then (
      some y2)
    else (
      if y2 = (-9) then (
        jX9_hoistedOf_39 z_s z_entries z_keeps (fun u1 u2 u3 => lX9_hoistedOf_5 z_s z_entries z_keeps n u1 u2 u3) y1 y2 y3)
      else (
        bn (fX9_ones y3) fun v6 =>
        bn (fX9_ones y2) fun v7 =>
        if v7 ≤ v6 then (
          jX9_hoistedOf_44 z_s z_entries z_keeps (fun u1 u2 u3 => lX9_hoistedOf_5 z_s z_entries z_keeps n u1 u2 u3) y1 y2 y3 0)
        else (
          jX9_hoistedOf_39 z_s z_entries z_keeps (fun u1 u2 u3 => lX9_hoistedOf_5 z_s z_entries z_keeps n u1 u2 u3) y1 y2 y3))) := rfl
def fX9_hoistedOf (z_s : Nat → Int32) (z_entries : Int32) (z_keeps : Nat → Int32) (x1 : Int32) : Option (Int32) :=
  lX9_hoistedOf_5 z_s z_entries z_keeps 5000 x1 (-9) 0
def fX9_hoistedArguments (z_s : Nat → Int32) (z_changed : Int32) (z_entries : Int32) (z_keeps : Nat → Int32) (x1 : Int32) : Option (Int32) :=
  bn (fX9_isCall z_s x1) fun v1 =>
  if v1 = 0 then (
    some (-1))
  else (
    if z_changed = (-9) then (
      some (-2))
    else (
      bn (fX9_isFrozen z_s x1) fun v5 =>
      if v5 = 0 then (
        bn (fX9_isConcerned z_s z_changed x1) fun v7 =>
        if v7 = 0 then (
          some 0)
        else (
          bn (fX9_hoistedOf z_s z_entries z_keeps x1) fun v9 =>
          some v9))
      else (
        some 0)))
def fX9_isServed (z_s : Nat → Int32) (x1 : Int32) (x2 : Int32) : Option (Int32) :=
  bn (fX9_at x1 0) fun v1 =>
  rd 467 z_s v1 fun v3 =>
  bn (fX9_supers z_s v3) fun v4 =>
  if (v4 &&& x2) = 0 then (
    some 0)
  else (
    some 1)
def jX9_areSufficient_50 (z_s : Nat → Int32) (z_changed : Int32) (k4 : Int32 → Int32 → Int32 → Option (Int32)) (y1 : Int32) (y3 : Int32) (s0 : Int32) : Option (Int32) :=
  k4 y1 s0 (y3 + 1)
def jX9_areSufficient_49 (z_s : Nat → Int32) (z_changed : Int32) (k4 : Int32 → Int32 → Int32 → Option (Int32)) (y1 : Int32) (y3 : Int32) : Option (Int32) :=
  jX9_areSufficient_50 z_s z_changed k4 y1 y3 0
def jX9_areSufficient_45 (z_s : Nat → Int32) (z_changed : Int32) (k4 : Int32 → Int32 → Int32 → Option (Int32)) (y1 : Int32) (y3 : Int32) : Option (Int32) :=
  jX9_areSufficient_50 z_s z_changed k4 y1 y3 1
def lX9_areSufficient_4 (z_s : Nat → Int32) (z_changed : Int32) : Nat → Int32 → Int32 → Int32 → Option (Int32)
  | 0, _, _, _ => none
  | n + 1, y1, y2, y3 =>
    rd 467 z_s 234 fun v1 =>
    if v1 ≤ y3 then (
      rb y2)
    else (
      if y2 = 0 then (
        jX9_areSufficient_49 z_s z_changed (fun u1 u2 u3 => lX9_areSufficient_4 z_s z_changed n u1 u2 u3) y1 y3)
      else (
        bn (fX9_isFrozen z_s y3) fun v4 =>
        if v4 = 0 then (
          jX9_areSufficient_45 z_s z_changed (fun u1 u2 u3 => lX9_areSufficient_4 z_s z_changed n u1 u2 u3) y1 y3)
        else (
          bn (fX9_isConcerned z_s z_changed y3) fun v7 =>
          if v7 = 0 then (
            jX9_areSufficient_45 z_s z_changed (fun u1 u2 u3 => lX9_areSufficient_4 z_s z_changed n u1 u2 u3) y1 y3)
          else (
            bn (fX9_isServed z_s y3 y1) fun v9 =>
            if v9 = 0 then (
              jX9_areSufficient_49 z_s z_changed (fun u1 u2 u3 => lX9_areSufficient_4 z_s z_changed n u1 u2 u3) y1 y3)
            else (
              jX9_areSufficient_45 z_s z_changed (fun u1 u2 u3 => lX9_areSufficient_4 z_s z_changed n u1 u2 u3) y1 y3)))))
theorem lX9_areSufficient_4_s (z_s : Nat → Int32) (z_changed : Int32) (n : Nat) (y1 : Int32) (y2 : Int32) (y3 : Int32) : lX9_areSufficient_4 z_s z_changed (n + 1) y1 y2 y3 =
    rd 467 z_s 234 fun v1 =>
    if v1 ≤ y3 then (
      rb y2)
    else (
      if y2 = 0 then (
        jX9_areSufficient_49 z_s z_changed (fun u1 u2 u3 => lX9_areSufficient_4 z_s z_changed n u1 u2 u3) y1 y3)
      else (
        bn (fX9_isFrozen z_s y3) fun v4 =>
        if v4 = 0 then (
          jX9_areSufficient_45 z_s z_changed (fun u1 u2 u3 => lX9_areSufficient_4 z_s z_changed n u1 u2 u3) y1 y3)
        else (
          bn (fX9_isConcerned z_s z_changed y3) fun v7 =>
          if v7 = 0 then (
            jX9_areSufficient_45 z_s z_changed (fun u1 u2 u3 => lX9_areSufficient_4 z_s z_changed n u1 u2 u3) y1 y3)
          else (
            bn (fX9_isServed z_s y3 y1) fun v9 =>
            if v9 = 0 then (
              jX9_areSufficient_49 z_s z_changed (fun u1 u2 u3 => lX9_areSufficient_4 z_s z_changed n u1 u2 u3) y1 y3)
            else (
              jX9_areSufficient_45 z_s z_changed (fun u1 u2 u3 => lX9_areSufficient_4 z_s z_changed n u1 u2 u3) y1 y3))))) := rfl
def fX9_areSufficient (z_s : Nat → Int32) (z_changed : Int32) (x1 : Int32) : Option (Int32) :=
  lX9_areSufficient_4 z_s z_changed 5000 x1 1 0
def jX9_declaringTypes_45 (z_s : Nat → Int32) (z_changed : Int32) (k13 : Int32 → Int32 → Int32 → Option (Int32)) (y1 : Int32) (y3 : Int32) (s0 : Int32) (s1 : Int32) : Option (Int32) :=
  k13 y1 (s0 ||| s1) (y3 + 1)
def lX9_declaringTypes_13 (z_s : Nat → Int32) (z_changed : Int32) : Nat → Int32 → Int32 → Int32 → Option (Int32)
  | 0, _, _, _ => none
  | n + 1, y1, y2, y3 =>
    rd 467 z_s 25 fun v1 =>
    if v1 ≤ y3 then (
      some y2)
    else (
      bn (fX9_has y1 y3) fun v3 =>
      if v3 = 0 then (
        jX9_declaringTypes_45 z_s z_changed (fun u1 u2 u3 => lX9_declaringTypes_13 z_s z_changed n u1 u2 u3) y1 y3 y2 0)
      else (
        bn (fX9_of z_s y3 0) fun v5 =>
        jX9_declaringTypes_45 z_s z_changed (fun u1 u2 u3 => lX9_declaringTypes_13 z_s z_changed n u1 u2 u3) y1 y3 y2 (1 <<< (v5 &&& 31))))
theorem lX9_declaringTypes_13_s (z_s : Nat → Int32) (z_changed : Int32) (n : Nat) (y1 : Int32) (y2 : Int32) (y3 : Int32) : lX9_declaringTypes_13 z_s z_changed (n + 1) y1 y2 y3 =
    rd 467 z_s 25 fun v1 =>
    if v1 ≤ y3 then (
      some y2)
    else (
      bn (fX9_has y1 y3) fun v3 =>
      if v3 = 0 then (
        jX9_declaringTypes_45 z_s z_changed (fun u1 u2 u3 => lX9_declaringTypes_13 z_s z_changed n u1 u2 u3) y1 y3 y2 0)
      else (
        bn (fX9_of z_s y3 0) fun v5 =>
        jX9_declaringTypes_45 z_s z_changed (fun u1 u2 u3 => lX9_declaringTypes_13 z_s z_changed n u1 u2 u3) y1 y3 y2 (1 <<< (v5 &&& 31)))) := rfl
def fX9_declaringTypes (z_s : Nat → Int32) (z_changed : Int32) : Option (Int32) :=
  bn (fX9_familyOf z_s z_changed) fun v1 =>
  lX9_declaringTypes_13 z_s z_changed 5000 v1 0 0
def jX9_bridgeTypes_77 (z_s : Nat → Int32) (z_changed : Int32) (k22 : Int32 → Int32 → Int32 → Option (Int32)) (y1 : Int32) (y3 : Int32) (s0 : Int32) : Option (Int32) :=
  k22 y1 s0 (y3 + 1)
def jX9_bridgeTypes_76 (z_s : Nat → Int32) (z_changed : Int32) (k22 : Int32 → Int32 → Int32 → Option (Int32)) (y1 : Int32) (y2 : Int32) (y3 : Int32) : Option (Int32) :=
  jX9_bridgeTypes_77 z_s z_changed k22 y1 y3 y2
def jX9_bridgeTypes_57 (z_s : Nat → Int32) (z_changed : Int32) (k22 : Int32 → Int32 → Int32 → Option (Int32)) (y1 : Int32) (y2 : Int32) (y3 : Int32) (s0 : Int32) : Option (Int32) :=
  if s0 = 0 then (
    jX9_bridgeTypes_76 z_s z_changed k22 y1 y2 y3)
  else (
    bn (fX9_areSufficient z_s z_changed y3) fun v2 =>
    if v2 = 0 then (
      jX9_bridgeTypes_76 z_s z_changed k22 y1 y2 y3)
    else (
      jX9_bridgeTypes_77 z_s z_changed k22 y1 y3 y3))
def jX9_bridgeTypes_56 (z_s : Nat → Int32) (z_changed : Int32) (k22 : Int32 → Int32 → Int32 → Option (Int32)) (y1 : Int32) (y2 : Int32) (y3 : Int32) : Option (Int32) :=
  jX9_bridgeTypes_57 z_s z_changed k22 y1 y2 y3 0
def jX9_bridgeTypes_52 (z_s : Nat → Int32) (z_changed : Int32) (k22 : Int32 → Int32 → Int32 → Option (Int32)) (y1 : Int32) (y2 : Int32) (y3 : Int32) : Option (Int32) :=
  jX9_bridgeTypes_57 z_s z_changed k22 y1 y2 y3 1
def lX9_bridgeTypes_22 (z_s : Nat → Int32) (z_changed : Int32) : Nat → Int32 → Int32 → Int32 → Option (Int32)
  | 0, _, _, _ => none
  | n + 1, y1, y2, y3 =>
    if y1 < y3 then (
      some y2)
    else (
      if (y3 &&& (y1 ^^^ (-1))) = 0 then (
        if y2 = (-9) then (
          jX9_bridgeTypes_52 z_s z_changed (fun u1 u2 u3 => lX9_bridgeTypes_22 z_s z_changed n u1 u2 u3) y1 y2 y3)
        else (
          bn (fX9_ones y3) fun v4 =>
          bn (fX9_ones y2) fun v5 =>
          if v5 ≤ v4 then (
            jX9_bridgeTypes_56 z_s z_changed (fun u1 u2 u3 => lX9_bridgeTypes_22 z_s z_changed n u1 u2 u3) y1 y2 y3)
          else (
            jX9_bridgeTypes_52 z_s z_changed (fun u1 u2 u3 => lX9_bridgeTypes_22 z_s z_changed n u1 u2 u3) y1 y2 y3)))
      else (
        jX9_bridgeTypes_56 z_s z_changed (fun u1 u2 u3 => lX9_bridgeTypes_22 z_s z_changed n u1 u2 u3) y1 y2 y3))
theorem lX9_bridgeTypes_22_s (z_s : Nat → Int32) (z_changed : Int32) (n : Nat) (y1 : Int32) (y2 : Int32) (y3 : Int32) : lX9_bridgeTypes_22 z_s z_changed (n + 1) y1 y2 y3 =
    if y1 < y3 then (
      some y2)
    else (
      if (y3 &&& (y1 ^^^ (-1))) = 0 then (
        if y2 = (-9) then (
          jX9_bridgeTypes_52 z_s z_changed (fun u1 u2 u3 => lX9_bridgeTypes_22 z_s z_changed n u1 u2 u3) y1 y2 y3)
        else (
          bn (fX9_ones y3) fun v4 =>
          bn (fX9_ones y2) fun v5 =>
          if v5 ≤ v4 then (
            jX9_bridgeTypes_56 z_s z_changed (fun u1 u2 u3 => lX9_bridgeTypes_22 z_s z_changed n u1 u2 u3) y1 y2 y3)
          else (
            jX9_bridgeTypes_52 z_s z_changed (fun u1 u2 u3 => lX9_bridgeTypes_22 z_s z_changed n u1 u2 u3) y1 y2 y3)))
      else (
        jX9_bridgeTypes_56 z_s z_changed (fun u1 u2 u3 => lX9_bridgeTypes_22 z_s z_changed n u1 u2 u3) y1 y2 y3)) := rfl
def fX9_bridgeTypes (z_s : Nat → Int32) (z_changed : Int32) : Option (Int32) :=
  if z_changed = (-9) then (
    some (-2))
  else (
    bn (fX9_declaringTypes z_s z_changed) fun v2 =>
    lX9_bridgeTypes_22 z_s z_changed 5000 v2 (-9) 0)
def jX9_hasSameKeys_61 (z_s : Nat → Int32) (z_changed : Int32) (z_entries : Int32) (z_entryKey : Nat → Int32) (k24 : Int32 → Int32 → Option (Int32)) (y2 : Int32) (s0 : Int32) : Option (Int32) :=
  k24 s0 (y2 + 1)
def lX9_hasSameKeys_24 (z_s : Nat → Int32) (z_changed : Int32) (z_entries : Int32) (z_entryKey : Nat → Int32) : Nat → Int32 → Int32 → Option (Int32)
  | 0, _, _ => none
  | n + 1, y1, y2 =>
    if z_entries ≤ y2 then (
      rb y1)
    else (
      if y1 = 0 then (
        rb y1)
      else (
        rd 5 z_entryKey y2 fun v3 =>
        bn (fX9_of z_s z_changed (3 + y2)) fun v4 =>
        if v3 = v4 then (
          jX9_hasSameKeys_61 z_s z_changed z_entries z_entryKey (fun u1 u2 => lX9_hasSameKeys_24 z_s z_changed z_entries z_entryKey n u1 u2) y2 1)
        else (
          jX9_hasSameKeys_61 z_s z_changed z_entries z_entryKey (fun u1 u2 => lX9_hasSameKeys_24 z_s z_changed z_entries z_entryKey n u1 u2) y2 0)))
theorem lX9_hasSameKeys_24_s (z_s : Nat → Int32) (z_changed : Int32) (z_entries : Int32) (z_entryKey : Nat → Int32) (n : Nat) (y1 : Int32) (y2 : Int32) : lX9_hasSameKeys_24 z_s z_changed z_entries z_entryKey (n + 1) y1 y2 =
    if z_entries ≤ y2 then (
      rb y1)
    else (
      if y1 = 0 then (
        rb y1)
      else (
        rd 5 z_entryKey y2 fun v3 =>
        bn (fX9_of z_s z_changed (3 + y2)) fun v4 =>
        if v3 = v4 then (
          jX9_hasSameKeys_61 z_s z_changed z_entries z_entryKey (fun u1 u2 => lX9_hasSameKeys_24 z_s z_changed z_entries z_entryKey n u1 u2) y2 1)
        else (
          jX9_hasSameKeys_61 z_s z_changed z_entries z_entryKey (fun u1 u2 => lX9_hasSameKeys_24 z_s z_changed z_entries z_entryKey n u1 u2) y2 0))) := rfl
def jX9_hasSameKeys_21 (z_s : Nat → Int32) (z_changed : Int32) (z_entries : Int32) (z_entryKey : Nat → Int32) (s0 : Int32) : Option (Int32) :=
  lX9_hasSameKeys_24 z_s z_changed z_entries z_entryKey 5000 s0 0
def fX9_hasSameKeys (z_s : Nat → Int32) (z_changed : Int32) (z_entries : Int32) (z_entryKey : Nat → Int32) : Option (Int32) :=
  bn (fX9_of z_s z_changed 2) fun v1 =>
  if z_entries = v1 then (
    jX9_hasSameKeys_21 z_s z_changed z_entries z_entryKey 1)
  else (
    jX9_hasSameKeys_21 z_s z_changed z_entries z_entryKey 0)
def jX9_isBarred_64 (z_s : Nat → Int32) (z_changed : Int32) (z_entries : Int32) (z_entryKey : Nat → Int32) (k4 : Int32 → Int32 → Option (Int32)) (y2 : Int32) (s0 : Int32) : Option (Int32) :=
  k4 s0 (y2 + 1)
def jX9_isBarred_59 (z_s : Nat → Int32) (z_changed : Int32) (z_entries : Int32) (z_entryKey : Nat → Int32) (k4 : Int32 → Int32 → Option (Int32)) (y2 : Int32) : Option (Int32) :=
  jX9_isBarred_64 z_s z_changed z_entries z_entryKey k4 y2 1
def jX9_isBarred_63 (z_s : Nat → Int32) (z_changed : Int32) (z_entries : Int32) (z_entryKey : Nat → Int32) (k4 : Int32 → Int32 → Option (Int32)) (y2 : Int32) : Option (Int32) :=
  jX9_isBarred_64 z_s z_changed z_entries z_entryKey k4 y2 0
def lX9_isBarred_4 (z_s : Nat → Int32) (z_changed : Int32) (z_entries : Int32) (z_entryKey : Nat → Int32) : Nat → Int32 → Int32 → Option (Int32)
  | 0, _, _ => none
  | n + 1, y1, y2 =>
    rd 467 z_s 234 fun v1 =>
    if v1 ≤ y2 then (
      rb y1)
    else (
      if y1 = 0 then (
        bn (fX9_isFrozen z_s y2) fun v4 =>
        if v4 = 0 then (
          jX9_isBarred_63 z_s z_changed z_entries z_entryKey (fun u1 u2 => lX9_isBarred_4 z_s z_changed z_entries z_entryKey n u1 u2) y2)
        else (
          bn (fX9_isConcerned z_s z_changed y2) fun v7 =>
          if v7 = 0 then (
            jX9_isBarred_63 z_s z_changed z_entries z_entryKey (fun u1 u2 => lX9_isBarred_4 z_s z_changed z_entries z_entryKey n u1 u2) y2)
          else (
            bn (fX9_of z_s z_changed 2) fun v9 =>
            if z_entries = v9 then (
              bn (fX9_hasSameKeys z_s z_changed z_entries z_entryKey) fun v11 =>
              if v11 = 0 then (
                jX9_isBarred_59 z_s z_changed z_entries z_entryKey (fun u1 u2 => lX9_isBarred_4 z_s z_changed z_entries z_entryKey n u1 u2) y2)
              else (
                jX9_isBarred_63 z_s z_changed z_entries z_entryKey (fun u1 u2 => lX9_isBarred_4 z_s z_changed z_entries z_entryKey n u1 u2) y2))
            else (
              jX9_isBarred_63 z_s z_changed z_entries z_entryKey (fun u1 u2 => lX9_isBarred_4 z_s z_changed z_entries z_entryKey n u1 u2) y2))))
      else (
        jX9_isBarred_59 z_s z_changed z_entries z_entryKey (fun u1 u2 => lX9_isBarred_4 z_s z_changed z_entries z_entryKey n u1 u2) y2))
theorem lX9_isBarred_4_s (z_s : Nat → Int32) (z_changed : Int32) (z_entries : Int32) (z_entryKey : Nat → Int32) (n : Nat) (y1 : Int32) (y2 : Int32) : lX9_isBarred_4 z_s z_changed z_entries z_entryKey (n + 1) y1 y2 =
    rd 467 z_s 234 fun v1 =>
    if v1 ≤ y2 then (
      rb y1)
    else (
      if y1 = 0 then (
        bn (fX9_isFrozen z_s y2) fun v4 =>
        if v4 = 0 then (
          jX9_isBarred_63 z_s z_changed z_entries z_entryKey (fun u1 u2 => lX9_isBarred_4 z_s z_changed z_entries z_entryKey n u1 u2) y2)
        else (
          bn (fX9_isConcerned z_s z_changed y2) fun v7 =>
          if v7 = 0 then (
            jX9_isBarred_63 z_s z_changed z_entries z_entryKey (fun u1 u2 => lX9_isBarred_4 z_s z_changed z_entries z_entryKey n u1 u2) y2)
          else (
            bn (fX9_of z_s z_changed 2) fun v9 =>
            if z_entries = v9 then (
              bn (fX9_hasSameKeys z_s z_changed z_entries z_entryKey) fun v11 =>
              if v11 = 0 then (
                jX9_isBarred_59 z_s z_changed z_entries z_entryKey (fun u1 u2 => lX9_isBarred_4 z_s z_changed z_entries z_entryKey n u1 u2) y2)
              else (
                jX9_isBarred_63 z_s z_changed z_entries z_entryKey (fun u1 u2 => lX9_isBarred_4 z_s z_changed z_entries z_entryKey n u1 u2) y2))
            else (
              jX9_isBarred_63 z_s z_changed z_entries z_entryKey (fun u1 u2 => lX9_isBarred_4 z_s z_changed z_entries z_entryKey n u1 u2) y2))))
      else (
        jX9_isBarred_59 z_s z_changed z_entries z_entryKey (fun u1 u2 => lX9_isBarred_4 z_s z_changed z_entries z_entryKey n u1 u2) y2)) := rfl
def fX9_isBarred (z_s : Nat → Int32) (z_changed : Int32) (z_entries : Int32) (z_entryKey : Nat → Int32) : Option (Int32) :=
  lX9_isBarred_4 z_s z_changed z_entries z_entryKey 5000 0 0
def jX9_hasRoom_67 (z_s : Nat → Int32) (z_changed : Int32) (z_entries : Int32) (z_keeps : Nat → Int32) (k4 : Int32 → Int32 → Option (Int32)) (y2 : Int32) (s0 : Int32) : Option (Int32) :=
  k4 s0 (y2 + 1)
def jX9_hasRoom_66 (z_s : Nat → Int32) (z_changed : Int32) (z_entries : Int32) (z_keeps : Nat → Int32) (k4 : Int32 → Int32 → Option (Int32)) (y2 : Int32) : Option (Int32) :=
  jX9_hasRoom_67 z_s z_changed z_entries z_keeps k4 y2 0
def jX9_hasRoom_62 (z_s : Nat → Int32) (z_changed : Int32) (z_entries : Int32) (z_keeps : Nat → Int32) (k4 : Int32 → Int32 → Option (Int32)) (y2 : Int32) : Option (Int32) :=
  jX9_hasRoom_67 z_s z_changed z_entries z_keeps k4 y2 1
def lX9_hasRoom_4 (z_s : Nat → Int32) (z_changed : Int32) (z_entries : Int32) (z_keeps : Nat → Int32) : Nat → Int32 → Int32 → Option (Int32)
  | 0, _, _ => none
  | n + 1, y1, y2 =>
    rd 467 z_s 234 fun v1 =>
    if v1 ≤ y2 then (
      rb y1)
    else (
      if y1 = 0 then (
        jX9_hasRoom_66 z_s z_changed z_entries z_keeps (fun u1 u2 => lX9_hasRoom_4 z_s z_changed z_entries z_keeps n u1 u2) y2)
      else (
        bn (fX9_isFrozen z_s y2) fun v4 =>
        if v4 = 0 then (
          bn (fX9_isConcerned z_s z_changed y2) fun v7 =>
          if v7 = 0 then (
            jX9_hasRoom_62 z_s z_changed z_entries z_keeps (fun u1 u2 => lX9_hasRoom_4 z_s z_changed z_entries z_keeps n u1 u2) y2)
          else (
            bn (fX9_at y2 20) fun v9 =>
            rd 467 z_s v9 fun v10 =>
            bn (fX9_hoistedOf z_s z_entries z_keeps y2) fun v11 =>
            bn (fX9_ones v11) fun v12 =>
            if 8 < (v10 + v12) then (
              jX9_hasRoom_66 z_s z_changed z_entries z_keeps (fun u1 u2 => lX9_hasRoom_4 z_s z_changed z_entries z_keeps n u1 u2) y2)
            else (
              jX9_hasRoom_62 z_s z_changed z_entries z_keeps (fun u1 u2 => lX9_hasRoom_4 z_s z_changed z_entries z_keeps n u1 u2) y2)))
        else (
          jX9_hasRoom_62 z_s z_changed z_entries z_keeps (fun u1 u2 => lX9_hasRoom_4 z_s z_changed z_entries z_keeps n u1 u2) y2)))
theorem lX9_hasRoom_4_s (z_s : Nat → Int32) (z_changed : Int32) (z_entries : Int32) (z_keeps : Nat → Int32) (n : Nat) (y1 : Int32) (y2 : Int32) : lX9_hasRoom_4 z_s z_changed z_entries z_keeps (n + 1) y1 y2 =
    rd 467 z_s 234 fun v1 =>
    if v1 ≤ y2 then (
      rb y1)
    else (
      if y1 = 0 then (
        jX9_hasRoom_66 z_s z_changed z_entries z_keeps (fun u1 u2 => lX9_hasRoom_4 z_s z_changed z_entries z_keeps n u1 u2) y2)
      else (
        bn (fX9_isFrozen z_s y2) fun v4 =>
        if v4 = 0 then (
          bn (fX9_isConcerned z_s z_changed y2) fun v7 =>
          if v7 = 0 then (
            jX9_hasRoom_62 z_s z_changed z_entries z_keeps (fun u1 u2 => lX9_hasRoom_4 z_s z_changed z_entries z_keeps n u1 u2) y2)
          else (
            bn (fX9_at y2 20) fun v9 =>
            rd 467 z_s v9 fun v10 =>
            bn (fX9_hoistedOf z_s z_entries z_keeps y2) fun v11 =>
            bn (fX9_ones v11) fun v12 =>
            if 8 < (v10 + v12) then (
              jX9_hasRoom_66 z_s z_changed z_entries z_keeps (fun u1 u2 => lX9_hasRoom_4 z_s z_changed z_entries z_keeps n u1 u2) y2)
            else (
              jX9_hasRoom_62 z_s z_changed z_entries z_keeps (fun u1 u2 => lX9_hasRoom_4 z_s z_changed z_entries z_keeps n u1 u2) y2)))
        else (
          jX9_hasRoom_62 z_s z_changed z_entries z_keeps (fun u1 u2 => lX9_hasRoom_4 z_s z_changed z_entries z_keeps n u1 u2) y2))) := rfl
def fX9_hasRoom (z_s : Nat → Int32) (z_changed : Int32) (z_entries : Int32) (z_keeps : Nat → Int32) : Option (Int32) :=
  lX9_hasRoom_4 z_s z_changed z_entries z_keeps 5000 1 0
def jX9_rewrite_323 (z_entries : Int32) (z_keeps : Nat → Int32) (z_entryKey : Nat → Int32) (z_entryDefault : Nat → Int32) (k165 : (Nat → Int32) → (Nat → Int32) → (Nat → Int32) → Int32 → Int32 → Option ((Nat → Int32) × (Nat → Int32) × (Nat → Int32))) (z_s : Nat → Int32) (z_kinds : Nat → Int32) (z_news : Nat → Int32) (y1 : Int32) (y4 : Int32) (s1 : Int32) (s2 : Int32) : Option ((Nat → Int32) × (Nat → Int32) × (Nat → Int32)) :=
  wr 467 z_s s1 s2 fun g1 =>
  k165 g1 z_kinds z_news y1 (y4 + 1)
def jX9_rewrite_288 (z_entries : Int32) (z_keeps : Nat → Int32) (z_entryKey : Nat → Int32) (z_entryDefault : Nat → Int32) (k165 : (Nat → Int32) → (Nat → Int32) → (Nat → Int32) → Int32 → Int32 → Option ((Nat → Int32) × (Nat → Int32) × (Nat → Int32))) (z_s : Nat → Int32) (z_kinds : Nat → Int32) (z_news : Nat → Int32) (y1 : Int32) (y4 : Int32) (s1 : Int32) (s2 : Int32) : Option ((Nat → Int32) × (Nat → Int32) × (Nat → Int32)) :=
  wr 467 z_s s1 s2 fun g1 =>
  bn (fX9_at y1 (15 + y4)) fun v2 =>
  if z_entries ≤ y4 then (
    jX9_rewrite_323 z_entries z_keeps z_entryKey z_entryDefault k165 g1 z_kinds z_news y1 y4 v2 0)
  else (
    rd 5 z_entryKey y4 fun v5 =>
    jX9_rewrite_323 z_entries z_keeps z_entryKey z_entryDefault k165 g1 z_kinds z_news y1 y4 v2 v5)
def jX9_rewrite_233 (z_entries : Int32) (z_keeps : Nat → Int32) (z_entryKey : Nat → Int32) (z_entryDefault : Nat → Int32) (k165 : (Nat → Int32) → (Nat → Int32) → (Nat → Int32) → Int32 → Int32 → Option ((Nat → Int32) × (Nat → Int32) × (Nat → Int32))) (z_s : Nat → Int32) (z_kinds : Nat → Int32) (z_news : Nat → Int32) (y1 : Int32) (y4 : Int32) (y5 : Int32) (s1 : Int32) (s2 : Int32) : Option ((Nat → Int32) × (Nat → Int32) × (Nat → Int32)) :=
  wr 467 z_s s1 s2 fun g1 =>
  bn (fX9_at y1 (10 + y4)) fun v2 =>
  if y5 = 0 then (
    if z_entries ≤ y4 then (
      jX9_rewrite_288 z_entries z_keeps z_entryKey z_entryDefault k165 g1 z_kinds z_news y1 y4 v2 0)
    else (
      rd 5 z_entryDefault y4 fun v6 =>
      jX9_rewrite_288 z_entries z_keeps z_entryKey z_entryDefault k165 g1 z_kinds z_news y1 y4 v2 v6))
  else (
    rd 5 z_keeps y4 fun v7 =>
    rd 5 z_news v7 fun v8 =>
    jX9_rewrite_288 z_entries z_keeps z_entryKey z_entryDefault k165 g1 z_kinds z_news y1 y4 v2 v8)
def jX9_rewrite_197 (z_entries : Int32) (z_keeps : Nat → Int32) (z_entryKey : Nat → Int32) (z_entryDefault : Nat → Int32) (k165 : (Nat → Int32) → (Nat → Int32) → (Nat → Int32) → Int32 → Int32 → Option ((Nat → Int32) × (Nat → Int32) × (Nat → Int32))) (z_s : Nat → Int32) (z_kinds : Nat → Int32) (z_news : Nat → Int32) (y1 : Int32) (y4 : Int32) (s0 : Int32) : Option ((Nat → Int32) × (Nat → Int32) × (Nat → Int32)) :=
  bn (fX9_at y1 (5 + y4)) fun v1 =>
  if s0 = 0 then (
    jX9_rewrite_233 z_entries z_keeps z_entryKey z_entryDefault k165 z_s z_kinds z_news y1 y4 s0 v1 0)
  else (
    rd 5 z_keeps y4 fun v4 =>
    rd 5 z_kinds v4 fun v5 =>
    jX9_rewrite_233 z_entries z_keeps z_entryKey z_entryDefault k165 z_s z_kinds z_news y1 y4 s0 v1 v5)
def jX9_rewrite_196 (z_entries : Int32) (z_keeps : Nat → Int32) (z_entryKey : Nat → Int32) (z_entryDefault : Nat → Int32) (k165 : (Nat → Int32) → (Nat → Int32) → (Nat → Int32) → Int32 → Int32 → Option ((Nat → Int32) × (Nat → Int32) × (Nat → Int32))) (z_s : Nat → Int32) (z_kinds : Nat → Int32) (z_news : Nat → Int32) (y1 : Int32) (y4 : Int32) : Option ((Nat → Int32) × (Nat → Int32) × (Nat → Int32)) :=
  jX9_rewrite_197 z_entries z_keeps z_entryKey z_entryDefault k165 z_s z_kinds z_news y1 y4 0
def lX9_rewrite_165 (z_entries : Int32) (z_keeps : Nat → Int32) (z_entryKey : Nat → Int32) (z_entryDefault : Nat → Int32) : Nat → (Nat → Int32) → (Nat → Int32) → (Nat → Int32) → Int32 → Int32 → Option ((Nat → Int32) × (Nat → Int32) × (Nat → Int32))
  | 0, _, _, _, _, _ => none
  | n + 1, z_s, z_kinds, z_news, y1, y4 =>
    if 5 ≤ y4 then (
      some (z_s, z_kinds, z_news))
    else (
      if z_entries ≤ y4 then (
        jX9_rewrite_196 z_entries z_keeps z_entryKey z_entryDefault (fun w_z_s w_z_kinds w_z_news u1 u4 => lX9_rewrite_165 z_entries z_keeps z_entryKey z_entryDefault n w_z_s w_z_kinds w_z_news u1 u4) z_s z_kinds z_news y1 y4)
      else (
        rd 5 z_keeps y4 fun v3 =>
        if v3 = (-9) then (
          jX9_rewrite_196 z_entries z_keeps z_entryKey z_entryDefault (fun w_z_s w_z_kinds w_z_news u1 u4 => lX9_rewrite_165 z_entries z_keeps z_entryKey z_entryDefault n w_z_s w_z_kinds w_z_news u1 u4) z_s z_kinds z_news y1 y4)
        else (
          jX9_rewrite_197 z_entries z_keeps z_entryKey z_entryDefault (fun w_z_s w_z_kinds w_z_news u1 u4 => lX9_rewrite_165 z_entries z_keeps z_entryKey z_entryDefault n w_z_s w_z_kinds w_z_news u1 u4) z_s z_kinds z_news y1 y4 1)))
theorem lX9_rewrite_165_s (z_entries : Int32) (z_keeps : Nat → Int32) (z_entryKey : Nat → Int32) (z_entryDefault : Nat → Int32) (n : Nat) (z_s : Nat → Int32) (z_kinds : Nat → Int32) (z_news : Nat → Int32) (y1 : Int32) (y4 : Int32) : lX9_rewrite_165 z_entries z_keeps z_entryKey z_entryDefault (n + 1) z_s z_kinds z_news y1 y4 =
    if 5 ≤ y4 then (
      some (z_s, z_kinds, z_news))
    else (
      if z_entries ≤ y4 then (
        jX9_rewrite_196 z_entries z_keeps z_entryKey z_entryDefault (fun w_z_s w_z_kinds w_z_news u1 u4 => lX9_rewrite_165 z_entries z_keeps z_entryKey z_entryDefault n w_z_s w_z_kinds w_z_news u1 u4) z_s z_kinds z_news y1 y4)
      else (
        rd 5 z_keeps y4 fun v3 =>
        if v3 = (-9) then (
          jX9_rewrite_196 z_entries z_keeps z_entryKey z_entryDefault (fun w_z_s w_z_kinds w_z_news u1 u4 => lX9_rewrite_165 z_entries z_keeps z_entryKey z_entryDefault n w_z_s w_z_kinds w_z_news u1 u4) z_s z_kinds z_news y1 y4)
        else (
          jX9_rewrite_197 z_entries z_keeps z_entryKey z_entryDefault (fun w_z_s w_z_kinds w_z_news u1 u4 => lX9_rewrite_165 z_entries z_keeps z_entryKey z_entryDefault n w_z_s w_z_kinds w_z_news u1 u4) z_s z_kinds z_news y1 y4 1))) := rfl
def lX9_rewrite_21 (z_entries : Int32) (z_keeps : Nat → Int32) (z_entryKey : Nat → Int32) (z_entryDefault : Nat → Int32) : Nat → (Nat → Int32) → (Nat → Int32) → (Nat → Int32) → Int32 → Int32 → Int32 → Int32 → Option ((Nat → Int32) × (Nat → Int32) × (Nat → Int32))
  | 0, _, _, _, _, _, _, _ => none
  | n + 1, z_s, z_kinds, z_news, y1, y2, y3, y4 =>
    if y3 ≤ y4 then (
      bn (fX9_at y1 4) fun v2 =>
      wr 467 z_s v2 z_entries fun g4 =>
      lX9_rewrite_165 z_entries z_keeps z_entryKey z_entryDefault 5000 g4 z_kinds z_news y1 0)
    else (
      bn (fX9_kindOf z_s y1 y4) fun v5 =>
      wr 5 z_kinds y4 v5 fun g7 =>
      bn (fX9_at y1 (10 + y4)) fun v8 =>
      rd 467 z_s v8 fun v10 =>
      wr 5 z_news y4 v10 fun g11 =>
      bn (fX9_has y2 y4) fun v12 =>
      if v12 = 0 then (
        lX9_rewrite_21 z_entries z_keeps z_entryKey z_entryDefault n z_s g7 g11 y1 y2 y3 (y4 + 1))
      else (
        bn (fX9_at y1 20) fun v14 =>
        rd 467 z_s v14 fun v16 =>
        bn (fX9_at y1 (21 + v16)) fun v17 =>
        rd 5 g7 y4 fun v18 =>
        wr 467 z_s v17 v18 fun g19 =>
        bn (fX9_at y1 20) fun v20 =>
        rd 467 g19 v20 fun v22 =>
        wr 467 g19 v20 (v22 + 1) fun g23 =>
        wr 5 g7 y4 3 fun g24 =>
        wr 5 g11 y4 v16 fun g25 =>
        lX9_rewrite_21 z_entries z_keeps z_entryKey z_entryDefault n g23 g24 g25 y1 y2 y3 (y4 + 1)))
theorem lX9_rewrite_21_s (z_entries : Int32) (z_keeps : Nat → Int32) (z_entryKey : Nat → Int32) (z_entryDefault : Nat → Int32) (n : Nat) (z_s : Nat → Int32) (z_kinds : Nat → Int32) (z_news : Nat → Int32) (y1 : Int32) (y2 : Int32) (y3 : Int32) (y4 : Int32) : lX9_rewrite_21 z_entries z_keeps z_entryKey z_entryDefault (n + 1) z_s z_kinds z_news y1 y2 y3 y4 =
    if y3 ≤ y4 then (
      bn (fX9_at y1 4) fun v2 =>
      wr 467 z_s v2 z_entries fun g4 =>
      lX9_rewrite_165 z_entries z_keeps z_entryKey z_entryDefault 5000 g4 z_kinds z_news y1 0)
    else (
      bn (fX9_kindOf z_s y1 y4) fun v5 =>
      wr 5 z_kinds y4 v5 fun g7 =>
      bn (fX9_at y1 (10 + y4)) fun v8 =>
      rd 467 z_s v8 fun v10 =>
      wr 5 z_news y4 v10 fun g11 =>
      bn (fX9_has y2 y4) fun v12 =>
      if v12 = 0 then (
        lX9_rewrite_21 z_entries z_keeps z_entryKey z_entryDefault n z_s g7 g11 y1 y2 y3 (y4 + 1))
      else (
        bn (fX9_at y1 20) fun v14 =>
        rd 467 z_s v14 fun v16 =>
        bn (fX9_at y1 (21 + v16)) fun v17 =>
        rd 5 g7 y4 fun v18 =>
        wr 467 z_s v17 v18 fun g19 =>
        bn (fX9_at y1 20) fun v20 =>
        rd 467 g19 v20 fun v22 =>
        wr 467 g19 v20 (v22 + 1) fun g23 =>
        wr 5 g7 y4 3 fun g24 =>
        wr 5 g11 y4 v16 fun g25 =>
        lX9_rewrite_21 z_entries z_keeps z_entryKey z_entryDefault n g23 g24 g25 y1 y2 y3 (y4 + 1))) := rfl
def fX9_rewrite (z_s : Nat → Int32) (z_entries : Int32) (z_keeps : Nat → Int32) (z_entryKey : Nat → Int32) (z_entryDefault : Nat → Int32) (z_kinds : Nat → Int32) (z_news : Nat → Int32) (x1 : Int32) : Option ((Nat → Int32) × (Nat → Int32) × (Nat → Int32)) :=
  bn (fX9_hoistedOf z_s z_entries z_keeps x1) fun v1 =>
  bn (fX9_at x1 4) fun v3 =>
  rd 467 z_s v3 fun v4 =>
  lX9_rewrite_21 z_entries z_keeps z_entryKey z_entryDefault 5000 z_s z_kinds z_news x1 v1 v4 0
def jX9_change_83 (z_entries : Int32) (z_entryKey : Nat → Int32) (z_entryDefault : Nat → Int32) (k22 : (Nat → Int32) → Int32 → Int32 → Option ((Nat → Int32))) (z_s : Nat → Int32) (y2 : Int32) (y3 : Int32) (s1 : Int32) (s2 : Int32) : Option ((Nat → Int32)) :=
  wr 467 z_s s1 s2 fun g1 =>
  k22 g1 y2 (y3 + 1)
def jX9_change_54 (z_entries : Int32) (z_entryKey : Nat → Int32) (z_entryDefault : Nat → Int32) (k22 : (Nat → Int32) → Int32 → Int32 → Option ((Nat → Int32))) (z_s : Nat → Int32) (y2 : Int32) (y3 : Int32) (s1 : Int32) (s2 : Int32) : Option ((Nat → Int32)) :=
  wr 467 z_s s1 s2 fun g1 =>
  if z_entries ≤ y3 then (
    jX9_change_83 z_entries z_entryKey z_entryDefault k22 g1 y2 y3 ((y2 + 8) + y3) 0)
  else (
    rd 5 z_entryDefault y3 fun v3 =>
    jX9_change_83 z_entries z_entryKey z_entryDefault k22 g1 y2 y3 ((y2 + 8) + y3) v3)
def lX9_change_22 (z_entries : Int32) (z_entryKey : Nat → Int32) (z_entryDefault : Nat → Int32) : Nat → (Nat → Int32) → Int32 → Int32 → Option ((Nat → Int32))
  | 0, _, _, _ => none
  | n + 1, z_s, y2, y3 =>
    if 5 ≤ y3 then (
      some z_s)
    else (
      if z_entries ≤ y3 then (
        jX9_change_54 z_entries z_entryKey z_entryDefault (fun w_z_s u2 u3 => lX9_change_22 z_entries z_entryKey z_entryDefault n w_z_s u2 u3) z_s y2 y3 ((y2 + 3) + y3) 0)
      else (
        rd 5 z_entryKey y3 fun v3 =>
        jX9_change_54 z_entries z_entryKey z_entryDefault (fun w_z_s u2 u3 => lX9_change_22 z_entries z_entryKey z_entryDefault n w_z_s u2 u3) z_s y2 y3 ((y2 + 3) + y3) v3))
theorem lX9_change_22_s (z_entries : Int32) (z_entryKey : Nat → Int32) (z_entryDefault : Nat → Int32) (n : Nat) (z_s : Nat → Int32) (y2 : Int32) (y3 : Int32) : lX9_change_22 z_entries z_entryKey z_entryDefault (n + 1) z_s y2 y3 =
    if 5 ≤ y3 then (
      some z_s)
    else (
      if z_entries ≤ y3 then (
        jX9_change_54 z_entries z_entryKey z_entryDefault (fun w_z_s u2 u3 => lX9_change_22 z_entries z_entryKey z_entryDefault n w_z_s u2 u3) z_s y2 y3 ((y2 + 3) + y3) 0)
      else (
        rd 5 z_entryKey y3 fun v3 =>
        jX9_change_54 z_entries z_entryKey z_entryDefault (fun w_z_s u2 u3 => lX9_change_22 z_entries z_entryKey z_entryDefault n w_z_s u2 u3) z_s y2 y3 ((y2 + 3) + y3) v3)) := rfl
def fX9_change (z_s : Nat → Int32) (z_entries : Int32) (z_entryKey : Nat → Int32) (z_entryDefault : Nat → Int32) (x1 : Int32) : Option ((Nat → Int32)) :=
  wr 467 z_s ((26 + (13 * x1)) + 2) z_entries fun g1 =>
  lX9_change_22 z_entries z_entryKey z_entryDefault 5000 g1 (26 + (13 * x1)) 0
def lX9_applyChange_122 (z_entries : Int32) (z_keeps : Nat → Int32) (z_entryKey : Nat → Int32) (z_entryDefault : Nat → Int32) : Nat → (Nat → Int32) → (Nat → Int32) → (Int32) → (Int32) → (Nat → Int32) → (Nat → Int32) → Int32 → Int32 → Int32 → Option (Int32 × (Nat → Int32) × (Nat → Int32) × Int32 × Int32 × (Nat → Int32) × (Nat → Int32))
  | 0, _, _, _, _, _, _, _, _, _ => none
  | n + 1, z_s, z_past, z_pasts, z_changed, z_kinds, z_news, y2, y3, y4 =>
    rd 467 z_s 25 fun v1 =>
    if v1 ≤ y4 then (
      some (y3, z_s, z_past, z_pasts, (-9), z_kinds, z_news))
    else (
      bn (fX9_has y2 y4) fun v3 =>
      if v3 = 0 then (
        lX9_applyChange_122 z_entries z_keeps z_entryKey z_entryDefault n z_s z_past z_pasts z_changed z_kinds z_news y2 y3 (y4 + 1))
      else (
        bn (fX9_change z_s z_entries z_entryKey z_entryDefault y4) fun g5 =>
        lX9_applyChange_122 z_entries z_keeps z_entryKey z_entryDefault n g5 z_past z_pasts z_changed z_kinds z_news y2 y3 (y4 + 1)))
theorem lX9_applyChange_122_s (z_entries : Int32) (z_keeps : Nat → Int32) (z_entryKey : Nat → Int32) (z_entryDefault : Nat → Int32) (n : Nat) (z_s : Nat → Int32) (z_past : Nat → Int32) (z_pasts : Int32) (z_changed : Int32) (z_kinds : Nat → Int32) (z_news : Nat → Int32) (y2 : Int32) (y3 : Int32) (y4 : Int32) : lX9_applyChange_122 z_entries z_keeps z_entryKey z_entryDefault (n + 1) z_s z_past z_pasts z_changed z_kinds z_news y2 y3 y4 =
    rd 467 z_s 25 fun v1 =>
    if v1 ≤ y4 then (
      some (y3, z_s, z_past, z_pasts, (-9), z_kinds, z_news))
    else (
      bn (fX9_has y2 y4) fun v3 =>
      if v3 = 0 then (
        lX9_applyChange_122 z_entries z_keeps z_entryKey z_entryDefault n z_s z_past z_pasts z_changed z_kinds z_news y2 y3 (y4 + 1))
      else (
        bn (fX9_change z_s z_entries z_entryKey z_entryDefault y4) fun g5 =>
        lX9_applyChange_122 z_entries z_keeps z_entryKey z_entryDefault n g5 z_past z_pasts z_changed z_kinds z_news y2 y3 (y4 + 1))) := rfl
def lX9_applyChange_63 (z_entries : Int32) (z_keeps : Nat → Int32) (z_entryKey : Nat → Int32) (z_entryDefault : Nat → Int32) : Nat → (Nat → Int32) → (Nat → Int32) → (Int32) → (Int32) → (Nat → Int32) → (Nat → Int32) → Int32 → Int32 → Int32 → Option (Int32 × (Nat → Int32) × (Nat → Int32) × Int32 × Int32 × (Nat → Int32) × (Nat → Int32))
  | 0, _, _, _, _, _, _, _, _, _ => none
  | n + 1, z_s, z_past, z_pasts, z_changed, z_kinds, z_news, y2, y3, y4 =>
    rd 467 z_s 234 fun v1 =>
    if v1 ≤ y4 then (
      lX9_applyChange_122 z_entries z_keeps z_entryKey z_entryDefault 5000 z_s z_past z_pasts z_changed z_kinds z_news y2 y3 0)
    else (
      bn (fX9_isFrozen z_s y4) fun v3 =>
      if v3 = 0 then (
        bn (fX9_at y4 2) fun v6 =>
        rd 467 z_s v6 fun v7 =>
        bn (fX9_has y2 v7) fun v8 =>
        if v8 = 0 then (
          lX9_applyChange_63 z_entries z_keeps z_entryKey z_entryDefault n z_s z_past z_pasts z_changed z_kinds z_news y2 y3 (y4 + 1))
        else (
          bn3 (fX9_rewrite z_s z_entries z_keeps z_entryKey z_entryDefault z_kinds z_news y4) fun g10 g11 g12 =>
          lX9_applyChange_63 z_entries z_keeps z_entryKey z_entryDefault n g10 z_past z_pasts z_changed g11 g12 y2 (y3 + 1) (y4 + 1)))
      else (
        lX9_applyChange_63 z_entries z_keeps z_entryKey z_entryDefault n z_s z_past z_pasts z_changed z_kinds z_news y2 y3 (y4 + 1)))
theorem lX9_applyChange_63_s (z_entries : Int32) (z_keeps : Nat → Int32) (z_entryKey : Nat → Int32) (z_entryDefault : Nat → Int32) (n : Nat) (z_s : Nat → Int32) (z_past : Nat → Int32) (z_pasts : Int32) (z_changed : Int32) (z_kinds : Nat → Int32) (z_news : Nat → Int32) (y2 : Int32) (y3 : Int32) (y4 : Int32) : lX9_applyChange_63 z_entries z_keeps z_entryKey z_entryDefault (n + 1) z_s z_past z_pasts z_changed z_kinds z_news y2 y3 y4 =
    rd 467 z_s 234 fun v1 =>
    if v1 ≤ y4 then (
      lX9_applyChange_122 z_entries z_keeps z_entryKey z_entryDefault 5000 z_s z_past z_pasts z_changed z_kinds z_news y2 y3 0)
    else (
      bn (fX9_isFrozen z_s y4) fun v3 =>
      if v3 = 0 then (
        bn (fX9_at y4 2) fun v6 =>
        rd 467 z_s v6 fun v7 =>
        bn (fX9_has y2 v7) fun v8 =>
        if v8 = 0 then (
          lX9_applyChange_63 z_entries z_keeps z_entryKey z_entryDefault n z_s z_past z_pasts z_changed z_kinds z_news y2 y3 (y4 + 1))
        else (
          bn3 (fX9_rewrite z_s z_entries z_keeps z_entryKey z_entryDefault z_kinds z_news y4) fun g10 g11 g12 =>
          lX9_applyChange_63 z_entries z_keeps z_entryKey z_entryDefault n g10 z_past z_pasts z_changed g11 g12 y2 (y3 + 1) (y4 + 1)))
      else (
        lX9_applyChange_63 z_entries z_keeps z_entryKey z_entryDefault n z_s z_past z_pasts z_changed z_kinds z_news y2 y3 (y4 + 1))) := rfl
def fX9_applyChange (z_s : Nat → Int32) (z_past : Nat → Int32) (z_pasts : Int32) (z_changed : Int32) (z_entries : Int32) (z_keeps : Nat → Int32) (z_entryKey : Nat → Int32) (z_entryDefault : Nat → Int32) (z_kinds : Nat → Int32) (z_news : Nat → Int32) : Option (Int32 × (Nat → Int32) × (Nat → Int32) × Int32 × Int32 × (Nat → Int32) × (Nat → Int32)) :=
  if z_changed = (-9) then (
    some ((-2), z_s, z_past, z_pasts, z_changed, z_kinds, z_news))
  else (
    bn (fX9_clash z_s z_changed z_entries) fun v2 =>
    if v2 = (-9) then (
      bn (fX9_isBarred z_s z_changed z_entries z_entryKey) fun v5 =>
      if v5 = 0 then (
        bn (fX9_hasRoom z_s z_changed z_entries z_keeps) fun v7 =>
        if v7 = 0 then (
          some ((-3), z_s, z_past, z_pasts, z_changed, z_kinds, z_news))
        else (
          bn3 (fX9_edit z_s z_past z_pasts z_changed) fun g9 g10 g11 =>
          bn (fX9_familyOf z_s z_changed) fun v12 =>
          lX9_applyChange_63 z_entries z_keeps z_entryKey z_entryDefault 5000 z_s g9 g10 z_changed z_kinds z_news v12 0 0))
      else (
        some ((-2), z_s, z_past, z_pasts, z_changed, z_kinds, z_news)))
    else (
      some ((-2), z_s, z_past, z_pasts, z_changed, z_kinds, z_news)))
