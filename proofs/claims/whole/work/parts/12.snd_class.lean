set_option maxRecDepth 100000 in
set_option maxHeartbeats 4000000 in
theorem te_P_init {D : xD} {d : Nat} {S0 : xS} : ∀ (p0 : Option Nat) (S : xS) (z : Unit × xS), e_P_init d p0 S = some z → V m_P_init D (d + 1) S0 (cvV z) 0 [(0, .inr (.inr p0))] [] S := by
  intro p0 S z h
  unfold e_P_init at h
  refine x_aload_n 0 d_P_init_0 rfl rfl ?_
  refine x_objInit' h d_P_init_1 wO_P_1 w_objI w_objC (Nat.le_of_ble_eq_true rfl) (fun h => ?_)
  refine x_aload_n 0 d_P_init_4 rfl rfl ?_
  refine x_sipush (v := 2048) d_P_init_5 (by decide) ?_
  refine x_newa h ha_0 rfl (fun _ _ => rfl) (fun _ _ => rfl) (by decide) wa_0 d_P_init_8 (fun q1 h => ?_)
  refine x_putF h hc_0 hi_0 tyX_0 ht_0 hn_0 (by decide) rfl rfl rfl (xnar_a _ _) (xfit_a _ _) wf_P_9p d_P_init_10 (fun S2 h => ?_)
  refine x_aload_n 0 d_P_init_13 rfl rfl ?_
  refine x_bipush (v := 16) d_P_init_14 (by decide) ?_
  refine x_anew h ha_2 wk_P_13 wo_2 d_P_init_16 (fun q3 h => ?_)
  refine x_putF h hc_0 hi_0 tyX_0 ht_0 hn_0 (by decide) rfl rfl rfl (xnar_a _ _) (xfit_a _ _) wf_P_15p d_P_init_19 (fun S4 h => ?_)
  refine x_aload_n 0 d_P_init_22 rfl rfl ?_
  refine x_new h hc_4 hi_4 tyX_4 ht_4 rfl hdf_4 wk_P_19 wn_4 wi_T d_P_init_23 (fun q5 h => ?_)
  refine x_dup d_P_init_26 (xcat _) ?_
  refine x_callI' (M' := m_T_init) (ax := []) (cv := cvV) (host := (some "PieceTexts")) (st := [va_rf (some q5.1), va_rf p0]) h (fun q h l => s_T_init d (some q5.1) q5.2 q h l D) rfl d_P_init_27 wm_P_21 wc_T_init rfl (Nat.le_of_ble_eq_true rfl) (fun q6 h => ?_)
  show V _ _ _ _ _ _ _ (va_rf (some q5.1) :: va_rf p0 :: []) _
  refine x_putF h hc_0 hi_0 tyX_0 ht_0 hn_0 (by decide) rfl rfl rfl (xnar_o _ _) (xfit_o _ _) wf_P_22p d_P_init_30 (fun S7 h => ?_)
  cases h
  exact x_vret rfl d_P_init_33
theorem s_P_init : ∀ (d : Nat) (p0 : Option Nat) (S : xS) (z : Unit × xS), f_P_init d p0 S = some z → ∀ (l : Launch) (D : xD), xMet l m_P_init D d [.inr (.inr p0)] S (cvV z) := by
  intro d
  induction d with
  | zero =>
    intro p0 S z h
    cases h
  | succ d ih =>
    intro p0 S z h l D
    exact x_ofV rfl (by decide) (Nat.le_of_ble_eq_true rfl) (te_P_init  p0 S z h)
set_option maxRecDepth 100000 in
set_option maxHeartbeats 4000000 in
theorem tb_P_append_39 {D : xD} {d : Nat} {S0 : xS} : ∀  (S : xS) (z : Unit × xS), b_P_append_39 d  S = some z → V m_P_append D (d + 1) S0 (cvV z) 39 [] [] S := by
  intro  S z h
  unfold b_P_append_39 at h
  cases h
  exact x_vret rfl d_P_append_39
set_option maxRecDepth 100000 in
set_option maxHeartbeats 4000000 in
theorem te_P_append {D : xD} {d : Nat} {S0 : xS} : ∀ (p0 : Option Nat) (p1 : Int32) (S : xS) (z : Unit × xS), e_P_append d p0 p1 S = some z → V m_P_append D (d + 1) S0 (cvV z) 0 [(0, .inr (.inr p0)), (1, .inl p1)] [] S := by
  intro p0 p1 S z h
  unfold e_P_append at h
  refine x_aload_n 0 d_P_append_0 rfl rfl ?_
  refine x_getI (host := none) h hc_0 hi_0 (by decide) wf_P_37 d_P_append_1 (fun v1 h => ?_)
  refine x_if_lt (tgt := 39) d_P_append_4 (by decide) h (fun h => ?_) (fun h => ?_)
  · refine x_ls [] rfl ?_
    exact tb_P_append_39 S _ h
  · refine x_aload_n 0 d_P_append_7 rfl rfl ?_
    refine x_getI (host := none) h hc_0 hi_0 (by decide) wf_P_37 d_P_append_8 (fun v2 h => ?_)
    refine x_aload_n 0 d_P_append_11 rfl rfl ?_
    refine x_getR (host := none) h hc_0 hi_0 (by decide) wf_P_9 d_P_append_12 (fun v3 h => ?_)
    refine x_len h ha_0 d_P_append_15 (fun v4 h => ?_)
    refine x_icmp_ge (tgt := 39) d_P_append_16 (by decide) h (fun h => ?_) (fun h => ?_)
    · refine x_ls [] rfl ?_
      exact tb_P_append_39 S _ h
    · refine x_aload_n 0 d_P_append_19 rfl rfl ?_
      refine x_getR (host := none) h hc_0 hi_0 (by decide) wf_P_9 d_P_append_20 (fun v5 h => ?_)
      refine x_aload_n 0 d_P_append_23 rfl rfl ?_
      refine x_getI (host := none) h hc_0 hi_0 (by decide) wf_P_37 d_P_append_24 (fun v6 h => ?_)
      refine x_iload_n 1 d_P_append_27 rfl rfl ?_
      refine x_bast h ha_0 d_P_append_28 (fun S7 h => ?_)
      refine x_aload_n 0 d_P_append_29 rfl rfl ?_
      refine x_dup d_P_append_30 (xcat _) ?_
      refine x_getI (host := none) h hc_0 hi_0 (by decide) wf_P_37 d_P_append_31 (fun v8 h => ?_)
      refine x_iconst (v := 1) d_P_append_34 (by decide) ?_
      refine x_iadd d_P_append_35 ?_
      refine x_put (host := none) h hc_0 hi_0 tyX_0 ht_0 hn_0 (by decide) rfl rfl rfl wf_P_37 d_P_append_36 (fun S9 h => ?_)
      refine x_ls [] rfl ?_
      exact tb_P_append_39 S9 _ h
theorem s_P_append : ∀ (d : Nat) (p0 : Option Nat) (p1 : Int32) (S : xS) (z : Unit × xS), f_P_append d p0 p1 S = some z → ∀ (l : Launch) (D : xD), xMet l m_P_append D d [.inr (.inr p0), .inl p1] S (cvV z) := by
  intro d
  induction d with
  | zero =>
    intro p0 p1 S z h
    cases h
  | succ d ih =>
    intro p0 p1 S z h l D
    exact x_ofV rfl (by decide) (Nat.le_of_ble_eq_true rfl) (te_P_append  p0 p1 S z h)
set_option maxRecDepth 100000 in
set_option maxHeartbeats 4000000 in
theorem tb_P_bytesOf_2 {D : xD} {d : Nat} {S0 : xS} {k2 : Int64 → Int32 → xS → Option (Int32 × xS)} (hk2 : ∀ (x0 : Int64) (x2 : Int32)  (S : xS) (z : Int32 × xS), k2 x0 x2 S = some z → V m_P_bytesOf D (d + 1) S0 (cvI z) 2 [(0, .inr (.inl x0)), (2, .inl x2)] [] S) : ∀ (x0 : Int64) (x2 : Int32) (S : xS) (z : Int32 × xS), b_P_bytesOf_2 d k2 x0 x2 S = some z → V m_P_bytesOf D (d + 1) S0 (cvI z) 2 [(0, .inr (.inl x0)), (2, .inl x2)] [] S := by
  intro x0 x2 S z h
  unfold b_P_bytesOf_2 at h
  refine x_iload_n 1 d_P_bytesOf_2 rfl rfl ?_
  refine x_bipush (v := 8) d_P_bytesOf_3 (by decide) ?_
  refine x_icmp_ge (tgt := 31) d_P_bytesOf_5 (by decide) h (fun h => ?_) (fun h => ?_)
  · refine x_bipush (v := 8) d_P_bytesOf_31 (by decide) ?_
    cases h
    exact x_iret rfl d_P_bytesOf_33
  · refine x_lload_n 0 d_P_bytesOf_8 rfl rfl ?_
    refine x_bipush (v := 8) d_P_bytesOf_9 (by decide) ?_
    refine x_iload_n 1 d_P_bytesOf_11 rfl rfl ?_
    refine x_imul d_P_bytesOf_12 ?_
    refine x_lushr d_P_bytesOf_13 ?_
    refine x_ldc2 (v := 255) d_P_bytesOf_14 wl_P_210 ?_
    refine x_land d_P_bytesOf_17 ?_
    refine x_lconst (v := 0) d_P_bytesOf_18 (by decide) ?_
    refine x_lcmp d_P_bytesOf_19 ?_
    refine x_if_ne (tgt := 25) d_P_bytesOf_20 (by decide) h (fun h => ?_) (fun h => ?_)
    · refine x_iinc (v := 1) (lv' := [(2, .inl (x2 + 1)), (0, .inr (.inl x0))]) 1 d_P_bytesOf_25 rfl (by decide) (by decide) rfl ?_
      refine x_goto (tgt := 2) d_P_bytesOf_28 (by decide) ?_
      refine x_ls [1, 0] rfl ?_
      exact hk2 x0 (x2 + 1) S _ h
    · refine x_iload_n 1 d_P_bytesOf_23 rfl rfl ?_
      cases h
      exact x_iret rfl d_P_bytesOf_24
theorem tl_P_bytesOf_2 {D : xD} {d : Nat} {S0 : xS} : ∀ (n : Nat) (x0 : Int64) (x2 : Int32) (S : xS) (z : Int32 × xS), l_P_bytesOf_2 d n x0 x2 S = some z → V m_P_bytesOf D (d + 1) S0 (cvI z) 2 [(0, .inr (.inl x0)), (2, .inl x2)] [] S := by
  intro n
  induction n with
  | zero =>
    intro x0 x2 S z h
    cases h
  | succ n ih =>
    intro x0 x2 S z h
    exact tb_P_bytesOf_2  ih x0 x2 S z h
set_option maxRecDepth 100000 in
set_option maxHeartbeats 4000000 in
theorem te_P_bytesOf {D : xD} {d : Nat} {S0 : xS} : ∀ (p0 : Int64) (S : xS) (z : Int32 × xS), e_P_bytesOf d p0 S = some z → V m_P_bytesOf D (d + 1) S0 (cvI z) 0 [(0, .inr (.inl p0))] [] S := by
  intro p0 S z h
  unfold e_P_bytesOf at h
  refine x_iconst (v := 0) d_P_bytesOf_0 (by decide) ?_
  refine x_istore_n (lv' := [(2, .inl 0), (0, .inr (.inl p0))]) d_P_bytesOf_1 rfl (by decide) rfl ?_
  refine x_ls [1, 0] rfl ?_
  exact tl_P_bytesOf_2 xN p0 0 S _ h
theorem s_P_bytesOf : ∀ (d : Nat) (p0 : Int64) (S : xS) (z : Int32 × xS), f_P_bytesOf d p0 S = some z → ∀ (l : Launch) (D : xD), xMet l m_P_bytesOf D d [.inr (.inl p0)] S (cvI z) := by
  intro d
  induction d with
  | zero =>
    intro p0 S z h
    cases h
  | succ d ih =>
    intro p0 S z h l D
    exact x_ofV rfl (by decide) (Nat.le_of_ble_eq_true rfl) (te_P_bytesOf  p0 S z h)
set_option maxRecDepth 100000 in
set_option maxHeartbeats 4000000 in
theorem tb_P_write_50 {D : xD} {d : Nat} {S0 : xS} {k50 : Option Nat → Int64 → Int32 → Int32 → Int32 → xS → Option ((Int32 ⊕ Nat) × xS)} (hk50 : ∀ (x0 : Option Nat) (x1 : Int64) (x3 : Int32) (x4 : Int32) (x5 : Int32)  (S : xS) (z : (Int32 ⊕ Nat) × xS), k50 x0 x1 x3 x4 x5 S = some z → V m_P_write D (d + 1) S0 (cvT z) 50 [(0, .inr (.inr x0)), (1, .inr (.inl x1)), (3, .inl x3), (4, .inl x4), (5, .inl x5)] [] S) : ∀ (x0 : Option Nat) (x1 : Int64) (x3 : Int32) (x4 : Int32) (x5 : Int32) (S : xS) (z : (Int32 ⊕ Nat) × xS), b_P_write_50 d k50 x0 x1 x3 x4 x5 S = some z → V m_P_write D (d + 1) S0 (cvT z) 50 [(0, .inr (.inr x0)), (1, .inr (.inl x1)), (3, .inl x3), (4, .inl x4), (5, .inl x5)] [] S := by
  intro x0 x1 x3 x4 x5 S z h
  unfold b_P_write_50 at h
  refine x_iload 4 d_P_write_50 rfl ?_
  refine x_iload_n 2 d_P_write_52 rfl rfl ?_
  refine x_icmp_ge (tgt := 75) d_P_write_53 (by decide) h (fun h => ?_) (fun h => ?_)
  · refine x_iload 3 d_P_write_75 rfl ?_
    cases h
    exact x_iret rfl d_P_write_77
  · refine x_aload_n 0 d_P_write_56 rfl rfl ?_
    refine x_lload_n 1 d_P_write_57 rfl rfl ?_
    refine x_bipush (v := 8) d_P_write_58 (by decide) ?_
    refine x_iload 4 d_P_write_60 rfl ?_
    refine x_imul d_P_write_62 ?_
    refine x_lushr d_P_write_63 ?_
    refine x_l2i d_P_write_64 ?_
    refine x_i2b d_P_write_65 ?_
    refine x_callV' (M' := m_P_append) (ax := [.inl ((((x1.toUInt64 >>> ((8 * x5).toInt64.toUInt64 &&& Int64.toUInt64 63)).toInt64).toInt32).toInt8.toInt32)]) (cv := cvV) (host := none) (st := []) h (fun q h l => s_P_append d x0 ((((x1.toUInt64 >>> ((8 * x5).toInt64.toUInt64 &&& Int64.toUInt64 63)).toInt64).toInt32).toInt8.toInt32) S q h l D) hc_0 rfl d_P_write_66 wm_P_46 wc_P_append rfl (Nat.le_of_ble_eq_true rfl) (fun q1 h => ?_)
    show V _ _ _ _ _ _ _ ([]) _
    refine x_iinc (v := 1) (lv' := [(5, .inl (x5 + 1)), (0, .inr (.inr x0)), (1, .inr (.inl x1)), (3, .inl x3), (4, .inl x4)]) 4 d_P_write_69 rfl (by decide) (by decide) rfl ?_
    refine x_goto (tgt := 50) d_P_write_72 (by decide) ?_
    refine x_ls [1, 2, 3, 4, 0] rfl ?_
    exact hk50 x0 x1 x3 x4 (x5 + 1) q1.2 _ h
theorem tl_P_write_50 {D : xD} {d : Nat} {S0 : xS} : ∀ (n : Nat) (x0 : Option Nat) (x1 : Int64) (x3 : Int32) (x4 : Int32) (x5 : Int32) (S : xS) (z : (Int32 ⊕ Nat) × xS), l_P_write_50 d n x0 x1 x3 x4 x5 S = some z → V m_P_write D (d + 1) S0 (cvT z) 50 [(0, .inr (.inr x0)), (1, .inr (.inl x1)), (3, .inl x3), (4, .inl x4), (5, .inl x5)] [] S := by
  intro n
  induction n with
  | zero =>
    intro x0 x1 x3 x4 x5 S z h
    cases h
  | succ n ih =>
    intro x0 x1 x3 x4 x5 S z h
    exact tb_P_write_50  ih x0 x1 x3 x4 x5 S z h
set_option maxRecDepth 100000 in
set_option maxHeartbeats 4000000 in
theorem te_P_write {D : xD} {d : Nat} {S0 : xS} : ∀ (p0 : Option Nat) (p1 : Int64) (S : xS) (z : (Int32 ⊕ Nat) × xS), e_P_write d p0 p1 S = some z → V m_P_write D (d + 1) S0 (cvT z) 0 [(0, .inr (.inr p0)), (1, .inr (.inl p1))] [] S := by
  intro p0 p1 S z h
  unfold e_P_write at h
  refine x_lload_n 1 d_P_write_0 rfl rfl ?_
  refine x_callS' (M' := m_P_bytesOf) (ax := [.inr (.inl p1)]) (cv := cvI) (host := none) (st := []) h (fun q h l => s_P_bytesOf d p1 S q h l D) rfl d_P_write_1 wm_P_26 wc_P_bytesOf rfl (Nat.le_of_ble_eq_true rfl) (fun q1 h => ?_)
  show V _ _ _ _ _ _ _ (.int q1.1 :: []) _
  refine x_istore_n (lv' := [(3, .inl q1.1), (0, .inr (.inr p0)), (1, .inr (.inl p1))]) d_P_write_4 rfl (by decide) rfl ?_
  refine x_iload_n 0 d_P_write_5 rfl rfl ?_
  refine x_if_ne (tgt := 19) d_P_write_6 (by decide) h (fun h => ?_) (fun h => ?_)
  · refine x_iload_n 0 d_P_write_19 rfl rfl ?_
    refine x_sipush (v := 2048) d_P_write_20 (by decide) ?_
    refine x_aload_n 1 d_P_write_23 rfl rfl ?_
    refine x_getI (host := none) h hc_0 hi_0 (by decide) wf_P_37 d_P_write_24 (fun v2 h => ?_)
    refine x_isub d_P_write_27 ?_
    refine x_icmp_le (tgt := 41) d_P_write_28 (by decide) h (fun h => ?_) (fun h => ?_)
    · refine x_aload_n 1 d_P_write_41 rfl rfl ?_
      refine x_getI (host := none) h hc_0 hi_0 (by decide) wf_P_37 d_P_write_42 (fun v3 h => ?_)
      refine x_istore (lv' := [(4, .inl v3), (3, .inl q1.1), (0, .inr (.inr p0)), (1, .inr (.inl p1))]) d_P_write_45 (by decide) rfl ?_
      refine x_iconst (v := 0) d_P_write_47 (by decide) ?_
      refine x_istore (lv' := [(5, .inl 0), (4, .inl v3), (3, .inl q1.1), (0, .inr (.inr p0)), (1, .inr (.inl p1))]) d_P_write_48 (by decide) rfl ?_
      refine x_ls [3, 4, 2, 1, 0] rfl ?_
      exact tl_P_write_50 xN p0 p1 q1.1 v3 0 q1.2 _ h
    · exact x_throwI h rfl rfl (by decide) wk_P_41 wi_IllegalStateException wt_P_43 wj_P_45 d_P_write_31 d_P_write_34 d_P_write_35 d_P_write_37 d_P_write_40 (Nat.le_of_ble_eq_true rfl)
  · exact x_throwI h rfl rfl (by decide) wk_P_30 wi_IllegalArgumentException wt_P_32 wj_P_34 d_P_write_9 d_P_write_12 d_P_write_13 d_P_write_15 d_P_write_18 (Nat.le_of_ble_eq_true rfl)
theorem s_P_write : ∀ (d : Nat) (p0 : Option Nat) (p1 : Int64) (S : xS) (z : (Int32 ⊕ Nat) × xS), f_P_write d p0 p1 S = some z → ∀ (l : Launch) (D : xD), xMet l m_P_write D d [.inr (.inr p0), .inr (.inl p1)] S (cvT z) := by
  intro d
  induction d with
  | zero =>
    intro p0 p1 S z h
    cases h
  | succ d ih =>
    intro p0 p1 S z h l D
    exact x_ofV rfl (by decide) (Nat.le_of_ble_eq_true rfl) (te_P_write  p0 p1 S z h)
set_option maxRecDepth 100000 in
set_option maxHeartbeats 4000000 in
theorem tb_P_become_20 {D : xD} {d : Nat} {S0 : xS} : ∀ (x2 : Option Nat) (S : xS) (z : Int32 × xS), b_P_become_20 d x2 S = some z → V m_P_become D (d + 1) S0 (cvI z) 20 [(2, .inr (.inr x2))] [] S := by
  intro x2 S z h
  unfold b_P_become_20 at h
  refine x_aload_n 0 d_P_become_20 rfl rfl ?_
  refine x_callS' (M' := m_R_charactersOf) (ax := [.inr (.inr x2)]) (cv := cvI) (host := (some "PieceTexts")) (st := []) h (fun q h l => s_R_charactersOf d x2 S q h l D) rfl d_P_become_21 wm_P_137 wc_R_charactersOf rfl (Nat.le_of_ble_eq_true rfl) (fun q1 h => ?_)
  show V _ _ _ _ _ _ _ (.int q1.1 :: []) _
  cases h
  exact x_iret rfl d_P_become_24
set_option maxRecDepth 100000 in
set_option maxHeartbeats 4000000 in
theorem te_P_become {D : xD} {d : Nat} {S0 : xS} : ∀ (p0 : Option Nat) (p1 : Int32) (p2 : Option Nat) (S : xS) (z : Int32 × xS), e_P_become d p0 p1 p2 S = some z → V m_P_become D (d + 1) S0 (cvI z) 0 [(0, .inr (.inr p0)), (1, .inl p1), (2, .inr (.inr p2))] [] S := by
  intro p0 p1 p2 S z h
  unfold e_P_become at h
  refine x_iload_n 1 d_P_become_0 rfl rfl ?_
  refine x_if_lt (tgt := 20) d_P_become_1 (by decide) h (fun h => ?_) (fun h => ?_)
  · refine x_ls [2] rfl ?_
    exact tb_P_become_20 p2 S _ h
  · refine x_iload_n 1 d_P_become_4 rfl rfl ?_
    refine x_aload_n 0 d_P_become_5 rfl rfl ?_
    refine x_getR (host := none) h hc_0 hi_0 (by decide) wf_P_15 d_P_become_6 (fun v1 h => ?_)
    refine x_len h ha_2 d_P_become_9 (fun v2 h => ?_)
    refine x_icmp_ge (tgt := 20) d_P_become_10 (by decide) h (fun h => ?_) (fun h => ?_)
    · refine x_ls [2] rfl ?_
      exact tb_P_become_20 p2 S _ h
    · refine x_aload_n 0 d_P_become_13 rfl rfl ?_
      refine x_getR (host := none) h hc_0 hi_0 (by decide) wf_P_15 d_P_become_14 (fun v3 h => ?_)
      refine x_iload_n 1 d_P_become_17 rfl rfl ?_
      refine x_aload_n 2 d_P_become_18 rfl rfl ?_
      refine x_aast h ha_2 hc_2 d_P_become_19 (fun S4 h => ?_)
      refine x_ls [2] rfl ?_
      exact tb_P_become_20 p2 S4 _ h
theorem s_P_become : ∀ (d : Nat) (p0 : Option Nat) (p1 : Int32) (p2 : Option Nat) (S : xS) (z : Int32 × xS), f_P_become d p0 p1 p2 S = some z → ∀ (l : Launch) (D : xD), xMet l m_P_become D d [.inr (.inr p0), .inl p1, .inr (.inr p2)] S (cvI z) := by
  intro d
  induction d with
  | zero =>
    intro p0 p1 p2 S z h
    cases h
  | succ d ih =>
    intro p0 p1 p2 S z h l D
    exact x_ofV rfl (by decide) (Nat.le_of_ble_eq_true rfl) (te_P_become  p0 p1 p2 S z h)
set_option maxRecDepth 100000 in
set_option maxHeartbeats 4000000 in
theorem tb_P_isText_18 {D : xD} {d : Nat} {S0 : xS} : ∀ (y0 : Int32) (S : xS) (z : Int32 × xS), b_P_isText_18 d y0 S = some z → V m_P_isText D (d + 1) S0 (cvI z) 18 [] [.int y0] S := by
  intro y0 S z h
  unfold b_P_isText_18 at h
  exact x_zretI h rfl d_P_isText_18
set_option maxRecDepth 100000 in
set_option maxHeartbeats 4000000 in
theorem tb_P_isText_17 {D : xD} {d : Nat} {S0 : xS} : ∀  (S : xS) (z : Int32 × xS), b_P_isText_17 d  S = some z → V m_P_isText D (d + 1) S0 (cvI z) 17 [] [] S := by
  intro  S z h
  unfold b_P_isText_17 at h
  refine x_iconst (v := 0) d_P_isText_17 (by decide) ?_
  refine x_ls [] rfl ?_
  exact tb_P_isText_18 0 S _ h
set_option maxRecDepth 100000 in
set_option maxHeartbeats 4000000 in
theorem te_P_isText {D : xD} {d : Nat} {S0 : xS} : ∀ (p0 : Option Nat) (p1 : Int32) (S : xS) (z : Int32 × xS), e_P_isText d p0 p1 S = some z → V m_P_isText D (d + 1) S0 (cvI z) 0 [(0, .inr (.inr p0)), (1, .inl p1)] [] S := by
  intro p0 p1 S z h
  unfold e_P_isText at h
  refine x_iload_n 1 d_P_isText_0 rfl rfl ?_
  refine x_if_lt (tgt := 17) d_P_isText_1 (by decide) h (fun h => ?_) (fun h => ?_)
  · refine x_ls [] rfl ?_
    exact tb_P_isText_17 S _ h
  · refine x_iload_n 1 d_P_isText_4 rfl rfl ?_
    refine x_aload_n 0 d_P_isText_5 rfl rfl ?_
    refine x_getR (host := none) h hc_0 hi_0 (by decide) wf_P_15 d_P_isText_6 (fun v1 h => ?_)
    refine x_len h ha_2 d_P_isText_9 (fun v2 h => ?_)
    refine x_icmp_ge (tgt := 17) d_P_isText_10 (by decide) h (fun h => ?_) (fun h => ?_)
    · refine x_ls [] rfl ?_
      exact tb_P_isText_17 S _ h
    · refine x_iconst (v := 1) d_P_isText_13 (by decide) ?_
      refine x_goto (tgt := 18) d_P_isText_14 (by decide) ?_
      refine x_ls [] rfl ?_
      exact tb_P_isText_18 1 S _ h
theorem s_P_isText : ∀ (d : Nat) (p0 : Option Nat) (p1 : Int32) (S : xS) (z : Int32 × xS), f_P_isText d p0 p1 S = some z → ∀ (l : Launch) (D : xD), xMet l m_P_isText D d [.inr (.inr p0), .inl p1] S (cvI z) := by
  intro d
  induction d with
  | zero =>
    intro p0 p1 S z h
    cases h
  | succ d ih =>
    intro p0 p1 S z h l D
    exact x_ofV rfl (by decide) (Nat.le_of_ble_eq_true rfl) (te_P_isText  p0 p1 S z h)
set_option maxRecDepth 100000 in
set_option maxHeartbeats 4000000 in
theorem te_P_demandText {D : xD} {d : Nat} {S0 : xS} : ∀ (p0 : Option Nat) (p1 : Int32) (S : xS) (z : (Unit ⊕ Nat) × xS), e_P_demandText d p0 p1 S = some z → V m_P_demandText D (d + 1) S0 (cvU z) 0 [(0, .inr (.inr p0)), (1, .inl p1)] [] S := by
  intro p0 p1 S z h
  unfold e_P_demandText at h
  refine x_aload_n 0 d_P_demandText_0 rfl rfl ?_
  refine x_iload_n 1 d_P_demandText_1 rfl rfl ?_
  refine x_callV' (M' := m_P_isText) (ax := [.inl p1]) (cv := cvI) (host := none) (st := []) h (fun q h l => s_P_isText d p0 p1 S q h l D) hc_0 rfl d_P_demandText_2 wm_P_144 wc_P_isText rfl (Nat.le_of_ble_eq_true rfl) (fun q1 h => ?_)
  show V _ _ _ _ _ _ _ (.int q1.1 :: []) _
  refine x_if_ne (tgt := 18) d_P_demandText_5 (by decide) h (fun h => ?_) (fun h => ?_)
  · cases h
    exact x_vret rfl d_P_demandText_18
  · exact x_throwV h rfl rfl (by decide) wk_P_54 wi_IndexOutOfBoundsException wt_P_216 wj_P_58 d_P_demandText_8 d_P_demandText_11 d_P_demandText_12 d_P_demandText_14 d_P_demandText_17 (Nat.le_of_ble_eq_true rfl)
theorem s_P_demandText : ∀ (d : Nat) (p0 : Option Nat) (p1 : Int32) (S : xS) (z : (Unit ⊕ Nat) × xS), f_P_demandText d p0 p1 S = some z → ∀ (l : Launch) (D : xD), xMet l m_P_demandText D d [.inr (.inr p0), .inl p1] S (cvU z) := by
  intro d
  induction d with
  | zero =>
    intro p0 p1 S z h
    cases h
  | succ d ih =>
    intro p0 p1 S z h l D
    exact x_ofV rfl (by decide) (Nat.le_of_ble_eq_true rfl) (te_P_demandText  p0 p1 S z h)
set_option maxRecDepth 100000 in
set_option maxHeartbeats 4000000 in
theorem tb_P_rootOf_23 {D : xD} {d : Nat} {S0 : xS} : ∀ (y0 : Option Nat) (S : xS) (z : Option Nat × xS), b_P_rootOf_23 d y0 S = some z → V m_P_rootOf D (d + 1) S0 (cvR z) 23 [] [va_rf y0] S := by
  intro y0 S z h
  unfold b_P_rootOf_23 at h
  cases h
  exact x_aret rfl d_P_rootOf_23
set_option maxRecDepth 100000 in
set_option maxHeartbeats 4000000 in
theorem tb_P_rootOf_22 {D : xD} {d : Nat} {S0 : xS} : ∀  (S : xS) (z : Option Nat × xS), b_P_rootOf_22 d  S = some z → V m_P_rootOf D (d + 1) S0 (cvR z) 22 [] [] S := by
  intro  S z h
  unfold b_P_rootOf_22 at h
  refine x_null d_P_rootOf_22 ?_
  refine x_ls [] rfl ?_
  exact tb_P_rootOf_23 none S _ h
set_option maxRecDepth 100000 in
set_option maxHeartbeats 4000000 in
theorem te_P_rootOf {D : xD} {d : Nat} {S0 : xS} : ∀ (p0 : Option Nat) (p1 : Int32) (S : xS) (z : Option Nat × xS), e_P_rootOf d p0 p1 S = some z → V m_P_rootOf D (d + 1) S0 (cvR z) 0 [(0, .inr (.inr p0)), (1, .inl p1)] [] S := by
  intro p0 p1 S z h
  unfold e_P_rootOf at h
  refine x_iload_n 1 d_P_rootOf_0 rfl rfl ?_
  refine x_if_lt (tgt := 22) d_P_rootOf_1 (by decide) h (fun h => ?_) (fun h => ?_)
  · refine x_ls [] rfl ?_
    exact tb_P_rootOf_22 S _ h
  · refine x_iload_n 1 d_P_rootOf_4 rfl rfl ?_
    refine x_aload_n 0 d_P_rootOf_5 rfl rfl ?_
    refine x_getR (host := none) h hc_0 hi_0 (by decide) wf_P_15 d_P_rootOf_6 (fun v1 h => ?_)
    refine x_len h ha_2 d_P_rootOf_9 (fun v2 h => ?_)
    refine x_icmp_ge (tgt := 22) d_P_rootOf_10 (by decide) h (fun h => ?_) (fun h => ?_)
    · refine x_ls [] rfl ?_
      exact tb_P_rootOf_22 S _ h
    · refine x_aload_n 0 d_P_rootOf_13 rfl rfl ?_
      refine x_getR (host := none) h hc_0 hi_0 (by decide) wf_P_15 d_P_rootOf_14 (fun v3 h => ?_)
      refine x_iload_n 1 d_P_rootOf_17 rfl rfl ?_
      refine x_aald h ha_2 d_P_rootOf_18 (fun v4 h => ?_)
      refine x_goto (tgt := 23) d_P_rootOf_19 (by decide) ?_
      refine x_ls [] rfl ?_
      exact tb_P_rootOf_23 v4 S _ h
theorem s_P_rootOf : ∀ (d : Nat) (p0 : Option Nat) (p1 : Int32) (S : xS) (z : Option Nat × xS), f_P_rootOf d p0 p1 S = some z → ∀ (l : Launch) (D : xD), xMet l m_P_rootOf D d [.inr (.inr p0), .inl p1] S (cvR z) := by
  intro d
  induction d with
  | zero =>
    intro p0 p1 S z h
    cases h
  | succ d ih =>
    intro p0 p1 S z h l D
    exact x_ofV rfl (by decide) (Nat.le_of_ble_eq_true rfl) (te_P_rootOf  p0 p1 S z h)
set_option maxRecDepth 100000 in
set_option maxHeartbeats 4000000 in
theorem tb_P_demandEdge_21 {D : xD} {d : Nat} {S0 : xS} : ∀  (S : xS) (z : (Unit ⊕ Nat) × xS), b_P_demandEdge_21 d  S = some z → V m_P_demandEdge D (d + 1) S0 (cvU z) 21 [] [] S := by
  intro  S z h
  unfold b_P_demandEdge_21 at h
  exact x_throwV h rfl rfl (by decide) wk_P_54 wi_IndexOutOfBoundsException wt_P_148 wj_P_58 d_P_demandEdge_21 d_P_demandEdge_24 d_P_demandEdge_25 d_P_demandEdge_27 d_P_demandEdge_30 (Nat.le_of_ble_eq_true rfl)
set_option maxRecDepth 100000 in
set_option maxHeartbeats 4000000 in
theorem te_P_demandEdge {D : xD} {d : Nat} {S0 : xS} : ∀ (p0 : Option Nat) (p1 : Int32) (p2 : Int32) (S : xS) (z : (Unit ⊕ Nat) × xS), e_P_demandEdge d p0 p1 p2 S = some z → V m_P_demandEdge D (d + 1) S0 (cvU z) 0 [(0, .inr (.inr p0)), (1, .inl p1), (2, .inl p2)] [] S := by
  intro p0 p1 p2 S z h
  unfold e_P_demandEdge at h
  refine x_aload_n 0 d_P_demandEdge_0 rfl rfl ?_
  refine x_iload_n 1 d_P_demandEdge_1 rfl rfl ?_
  refine x_callV' (M' := m_P_demandText) (ax := [.inl p1]) (cv := cvU) (host := none) (st := []) h (fun q h l => s_P_demandText d p0 p1 S q h l D) hc_0 rfl d_P_demandEdge_2 wm_P_107 wc_P_demandText rfl (Nat.le_of_ble_eq_true rfl) (fun q1 h => ?_)
  refine x_tryV h (fun v2 h => ?_) (fun e h => ?_)
  · refine x_iload_n 2 d_P_demandEdge_5 rfl rfl ?_
    refine x_if_lt (tgt := 21) d_P_demandEdge_6 (by decide) h (fun h => ?_) (fun h => ?_)
    · refine x_ls [] rfl ?_
      exact tb_P_demandEdge_21 q1.2 _ h
    · refine x_iload_n 2 d_P_demandEdge_9 rfl rfl ?_
      refine x_aload_n 0 d_P_demandEdge_10 rfl rfl ?_
      refine x_iload_n 1 d_P_demandEdge_11 rfl rfl ?_
      refine x_callV' (M' := m_P_rootOf) (ax := [.inl p1]) (cv := cvR) (host := none) (st := [.int p2]) h (fun q h l => s_P_rootOf d p0 p1 q1.2 q h l D) hc_0 rfl d_P_demandEdge_12 wm_P_59 wc_P_rootOf rfl (Nat.le_of_ble_eq_true rfl) (fun q3 h => ?_)
      show V _ _ _ _ _ _ _ (va_rf q3.1 :: .int p2 :: []) _
      refine x_callS' (M' := m_R_charactersOf) (ax := [.inr (.inr q3.1)]) (cv := cvI) (host := (some "PieceTexts")) (st := [.int p2]) h (fun q h l => s_R_charactersOf d q3.1 q3.2 q h l D) rfl d_P_demandEdge_15 wm_P_137 wc_R_charactersOf rfl (Nat.le_of_ble_eq_true rfl) (fun q4 h => ?_)
      show V _ _ _ _ _ _ _ (.int q4.1 :: .int p2 :: []) _
      refine x_icmp_le (tgt := 31) d_P_demandEdge_18 (by decide) h (fun h => ?_) (fun h => ?_)
      · cases h
        exact x_vret rfl d_P_demandEdge_31
      · refine x_ls [] rfl ?_
        exact tb_P_demandEdge_21 q4.2 _ h
  · cases h
    rfl
theorem s_P_demandEdge : ∀ (d : Nat) (p0 : Option Nat) (p1 : Int32) (p2 : Int32) (S : xS) (z : (Unit ⊕ Nat) × xS), f_P_demandEdge d p0 p1 p2 S = some z → ∀ (l : Launch) (D : xD), xMet l m_P_demandEdge D d [.inr (.inr p0), .inl p1, .inl p2] S (cvU z) := by
  intro d
  induction d with
  | zero =>
    intro p0 p1 p2 S z h
    cases h
  | succ d ih =>
    intro p0 p1 p2 S z h l D
    exact x_ofV rfl (by decide) (Nat.le_of_ble_eq_true rfl) (te_P_demandEdge  p0 p1 p2 S z h)
set_option maxRecDepth 100000 in
set_option maxHeartbeats 4000000 in
theorem tb_P_charactersInAll_13 {D : xD} {d : Nat} {S0 : xS} {k13 : Int32 → Option Nat → Int32 → Int32 → xS → Option (Int32 × xS)} (hk13 : ∀ (x1 : Int32) (x2 : Option Nat) (x3 : Int32) (x4 : Int32)  (S : xS) (z : Int32 × xS), k13 x1 x2 x3 x4 S = some z → V m_P_charactersInAll D (d + 1) S0 (cvI z) 13 [(1, .inl x1), (2, .inr (.inr x2)), (3, .inl x3), (4, .inl x4)] [] S) : ∀ (x1 : Int32) (x2 : Option Nat) (x3 : Int32) (x4 : Int32) (S : xS) (z : Int32 × xS), b_P_charactersInAll_13 d k13 x1 x2 x3 x4 S = some z → V m_P_charactersInAll D (d + 1) S0 (cvI z) 13 [(1, .inl x1), (2, .inr (.inr x2)), (3, .inl x3), (4, .inl x4)] [] S := by
  intro x1 x2 x3 x4 S z h
  unfold b_P_charactersInAll_13 at h
  refine x_iload 3 d_P_charactersInAll_13 rfl ?_
  refine x_iload_n 2 d_P_charactersInAll_15 rfl rfl ?_
  refine x_icmp_ge (tgt := 39) d_P_charactersInAll_16 (by decide) h (fun h => ?_) (fun h => ?_)
  · refine x_iload_n 0 d_P_charactersInAll_39 rfl rfl ?_
    cases h
    exact x_iret rfl d_P_charactersInAll_40
  · refine x_aload_n 1 d_P_charactersInAll_19 rfl rfl ?_
    refine x_iload 3 d_P_charactersInAll_20 rfl ?_
    refine x_aald h ha_2 d_P_charactersInAll_22 (fun v1 h => ?_)
    refine x_astore (lv' := [(5, .inr (.inr v1)), (1, .inl x1), (2, .inr (.inr x2)), (3, .inl x3), (4, .inl x4)]) d_P_charactersInAll_23 (by decide) rfl ?_
    refine x_iload_n 1 d_P_charactersInAll_25 rfl rfl ?_
    refine x_aload 0 d_P_charactersInAll_26 rfl ?_
    refine x_callS' (M' := m_R_charactersOf) (ax := [.inr (.inr v1)]) (cv := cvI) (host := (some "PieceTexts")) (st := [.int x1]) h (fun q h l => s_R_charactersOf d v1 S q h l D) rfl d_P_charactersInAll_28 wm_P_137 wc_R_charactersOf rfl (Nat.le_of_ble_eq_true rfl) (fun q2 h => ?_)
    show V _ _ _ _ _ _ _ (.int q2.1 :: .int x1 :: []) _
    refine x_iadd d_P_charactersInAll_31 ?_
    refine x_istore_n (lv' := [(1, .inl (x1 + q2.1)), (5, .inr (.inr v1)), (2, .inr (.inr x2)), (3, .inl x3), (4, .inl x4)]) d_P_charactersInAll_32 rfl (by decide) rfl ?_
    refine x_iinc (v := 1) (lv' := [(4, .inl (x4 + 1)), (1, .inl (x1 + q2.1)), (5, .inr (.inr v1)), (2, .inr (.inr x2)), (3, .inl x3)]) 4 d_P_charactersInAll_33 rfl (by decide) (by decide) rfl ?_
    refine x_goto (tgt := 13) d_P_charactersInAll_36 (by decide) ?_
    refine x_ls [1, 3, 4, 0] rfl ?_
    exact hk13 (x1 + q2.1) x2 x3 (x4 + 1) q2.2 _ h
theorem tl_P_charactersInAll_13 {D : xD} {d : Nat} {S0 : xS} : ∀ (n : Nat) (x1 : Int32) (x2 : Option Nat) (x3 : Int32) (x4 : Int32) (S : xS) (z : Int32 × xS), l_P_charactersInAll_13 d n x1 x2 x3 x4 S = some z → V m_P_charactersInAll D (d + 1) S0 (cvI z) 13 [(1, .inl x1), (2, .inr (.inr x2)), (3, .inl x3), (4, .inl x4)] [] S := by
  intro n
  induction n with
  | zero =>
    intro x1 x2 x3 x4 S z h
    cases h
  | succ n ih =>
    intro x1 x2 x3 x4 S z h
    exact tb_P_charactersInAll_13  ih x1 x2 x3 x4 S z h
set_option maxRecDepth 100000 in
set_option maxHeartbeats 4000000 in
theorem te_P_charactersInAll {D : xD} {d : Nat} {S0 : xS} : ∀ (p0 : Option Nat) (S : xS) (z : Int32 × xS), e_P_charactersInAll d p0 S = some z → V m_P_charactersInAll D (d + 1) S0 (cvI z) 0 [(0, .inr (.inr p0))] [] S := by
  intro p0 S z h
  unfold e_P_charactersInAll at h
  refine x_iconst (v := 0) d_P_charactersInAll_0 (by decide) ?_
  refine x_istore_n (lv' := [(1, .inl 0), (0, .inr (.inr p0))]) d_P_charactersInAll_1 rfl (by decide) rfl ?_
  refine x_aload_n 1 d_P_charactersInAll_2 rfl rfl ?_
  refine x_getR (host := none) h hc_0 hi_0 (by decide) wf_P_15 d_P_charactersInAll_3 (fun v1 h => ?_)
  refine x_astore_n (lv' := [(2, .inr (.inr v1)), (1, .inl 0), (0, .inr (.inr p0))]) d_P_charactersInAll_6 rfl (by decide) rfl ?_
  refine x_aload_n 0 d_P_charactersInAll_7 rfl rfl ?_
  refine x_len h ha_2 d_P_charactersInAll_8 (fun v2 h => ?_)
  refine x_istore_n (lv' := [(3, .inl v2), (2, .inr (.inr v1)), (1, .inl 0), (0, .inr (.inr p0))]) d_P_charactersInAll_9 rfl (by decide) rfl ?_
  refine x_iconst (v := 0) d_P_charactersInAll_10 (by decide) ?_
  refine x_istore (lv' := [(4, .inl 0), (3, .inl v2), (2, .inr (.inr v1)), (1, .inl 0), (0, .inr (.inr p0))]) d_P_charactersInAll_11 (by decide) rfl ?_
  refine x_ls [3, 2, 1, 0] rfl ?_
  exact tl_P_charactersInAll_13 xN 0 v1 v2 0 S _ h
theorem s_P_charactersInAll : ∀ (d : Nat) (p0 : Option Nat) (S : xS) (z : Int32 × xS), f_P_charactersInAll d p0 S = some z → ∀ (l : Launch) (D : xD), xMet l m_P_charactersInAll D d [.inr (.inr p0)] S (cvI z) := by
  intro d
  induction d with
  | zero =>
    intro p0 S z h
    cases h
  | succ d ih =>
    intro p0 S z h l D
    exact x_ofV rfl (by decide) (Nat.le_of_ble_eq_true rfl) (te_P_charactersInAll  p0 S z h)
set_option maxRecDepth 100000 in
set_option maxHeartbeats 4000000 in
theorem tb_P_piecesInAll_13 {D : xD} {d : Nat} {S0 : xS} {k13 : Int32 → Option Nat → Int32 → Int32 → xS → Option (Int32 × xS)} (hk13 : ∀ (x1 : Int32) (x2 : Option Nat) (x3 : Int32) (x4 : Int32)  (S : xS) (z : Int32 × xS), k13 x1 x2 x3 x4 S = some z → V m_P_piecesInAll D (d + 1) S0 (cvI z) 13 [(1, .inl x1), (2, .inr (.inr x2)), (3, .inl x3), (4, .inl x4)] [] S) : ∀ (x1 : Int32) (x2 : Option Nat) (x3 : Int32) (x4 : Int32) (S : xS) (z : Int32 × xS), b_P_piecesInAll_13 d k13 x1 x2 x3 x4 S = some z → V m_P_piecesInAll D (d + 1) S0 (cvI z) 13 [(1, .inl x1), (2, .inr (.inr x2)), (3, .inl x3), (4, .inl x4)] [] S := by
  intro x1 x2 x3 x4 S z h
  unfold b_P_piecesInAll_13 at h
  refine x_iload 3 d_P_piecesInAll_13 rfl ?_
  refine x_iload_n 2 d_P_piecesInAll_15 rfl rfl ?_
  refine x_icmp_ge (tgt := 39) d_P_piecesInAll_16 (by decide) h (fun h => ?_) (fun h => ?_)
  · refine x_iload_n 0 d_P_piecesInAll_39 rfl rfl ?_
    cases h
    exact x_iret rfl d_P_piecesInAll_40
  · refine x_aload_n 1 d_P_piecesInAll_19 rfl rfl ?_
    refine x_iload 3 d_P_piecesInAll_20 rfl ?_
    refine x_aald h ha_2 d_P_piecesInAll_22 (fun v1 h => ?_)
    refine x_astore (lv' := [(5, .inr (.inr v1)), (1, .inl x1), (2, .inr (.inr x2)), (3, .inl x3), (4, .inl x4)]) d_P_piecesInAll_23 (by decide) rfl ?_
    refine x_iload_n 1 d_P_piecesInAll_25 rfl rfl ?_
    refine x_aload 0 d_P_piecesInAll_26 rfl ?_
    refine x_callS' (M' := m_R_piecesOf) (ax := [.inr (.inr v1)]) (cv := cvI) (host := (some "PieceTexts")) (st := [.int x1]) h (fun q h l => s_R_piecesOf d v1 S q h l D) rfl d_P_piecesInAll_28 wm_P_69 wc_R_piecesOf rfl (Nat.le_of_ble_eq_true rfl) (fun q2 h => ?_)
    show V _ _ _ _ _ _ _ (.int q2.1 :: .int x1 :: []) _
    refine x_iadd d_P_piecesInAll_31 ?_
    refine x_istore_n (lv' := [(1, .inl (x1 + q2.1)), (5, .inr (.inr v1)), (2, .inr (.inr x2)), (3, .inl x3), (4, .inl x4)]) d_P_piecesInAll_32 rfl (by decide) rfl ?_
    refine x_iinc (v := 1) (lv' := [(4, .inl (x4 + 1)), (1, .inl (x1 + q2.1)), (5, .inr (.inr v1)), (2, .inr (.inr x2)), (3, .inl x3)]) 4 d_P_piecesInAll_33 rfl (by decide) (by decide) rfl ?_
    refine x_goto (tgt := 13) d_P_piecesInAll_36 (by decide) ?_
    refine x_ls [1, 3, 4, 0] rfl ?_
    exact hk13 (x1 + q2.1) x2 x3 (x4 + 1) q2.2 _ h
theorem tl_P_piecesInAll_13 {D : xD} {d : Nat} {S0 : xS} : ∀ (n : Nat) (x1 : Int32) (x2 : Option Nat) (x3 : Int32) (x4 : Int32) (S : xS) (z : Int32 × xS), l_P_piecesInAll_13 d n x1 x2 x3 x4 S = some z → V m_P_piecesInAll D (d + 1) S0 (cvI z) 13 [(1, .inl x1), (2, .inr (.inr x2)), (3, .inl x3), (4, .inl x4)] [] S := by
  intro n
  induction n with
  | zero =>
    intro x1 x2 x3 x4 S z h
    cases h
  | succ n ih =>
    intro x1 x2 x3 x4 S z h
    exact tb_P_piecesInAll_13  ih x1 x2 x3 x4 S z h
set_option maxRecDepth 100000 in
set_option maxHeartbeats 4000000 in
theorem te_P_piecesInAll {D : xD} {d : Nat} {S0 : xS} : ∀ (p0 : Option Nat) (S : xS) (z : Int32 × xS), e_P_piecesInAll d p0 S = some z → V m_P_piecesInAll D (d + 1) S0 (cvI z) 0 [(0, .inr (.inr p0))] [] S := by
  intro p0 S z h
  unfold e_P_piecesInAll at h
  refine x_iconst (v := 0) d_P_piecesInAll_0 (by decide) ?_
  refine x_istore_n (lv' := [(1, .inl 0), (0, .inr (.inr p0))]) d_P_piecesInAll_1 rfl (by decide) rfl ?_
  refine x_aload_n 1 d_P_piecesInAll_2 rfl rfl ?_
  refine x_getR (host := none) h hc_0 hi_0 (by decide) wf_P_15 d_P_piecesInAll_3 (fun v1 h => ?_)
  refine x_astore_n (lv' := [(2, .inr (.inr v1)), (1, .inl 0), (0, .inr (.inr p0))]) d_P_piecesInAll_6 rfl (by decide) rfl ?_
  refine x_aload_n 0 d_P_piecesInAll_7 rfl rfl ?_
  refine x_len h ha_2 d_P_piecesInAll_8 (fun v2 h => ?_)
  refine x_istore_n (lv' := [(3, .inl v2), (2, .inr (.inr v1)), (1, .inl 0), (0, .inr (.inr p0))]) d_P_piecesInAll_9 rfl (by decide) rfl ?_
  refine x_iconst (v := 0) d_P_piecesInAll_10 (by decide) ?_
  refine x_istore (lv' := [(4, .inl 0), (3, .inl v2), (2, .inr (.inr v1)), (1, .inl 0), (0, .inr (.inr p0))]) d_P_piecesInAll_11 (by decide) rfl ?_
  refine x_ls [3, 2, 1, 0] rfl ?_
  exact tl_P_piecesInAll_13 xN 0 v1 v2 0 S _ h
theorem s_P_piecesInAll : ∀ (d : Nat) (p0 : Option Nat) (S : xS) (z : Int32 × xS), f_P_piecesInAll d p0 S = some z → ∀ (l : Launch) (D : xD), xMet l m_P_piecesInAll D d [.inr (.inr p0)] S (cvI z) := by
  intro d
  induction d with
  | zero =>
    intro p0 S z h
    cases h
  | succ d ih =>
    intro p0 S z h l D
    exact x_ofV rfl (by decide) (Nat.le_of_ble_eq_true rfl) (te_P_piecesInAll  p0 S z h)
set_option maxRecDepth 100000 in
set_option maxHeartbeats 4000000 in
theorem te_P_demandRoom {D : xD} {d : Nat} {S0 : xS} : ∀ (p0 : Option Nat) (p1 : Int32) (p2 : Int32) (S : xS) (z : (Unit ⊕ Nat) × xS), e_P_demandRoom d p0 p1 p2 S = some z → V m_P_demandRoom D (d + 1) S0 (cvU z) 0 [(0, .inr (.inr p0)), (1, .inl p1), (2, .inl p2)] [] S := by
  intro p0 p1 p2 S z h
  unfold e_P_demandRoom at h
  refine x_aload_n 0 d_P_demandRoom_0 rfl rfl ?_
  refine x_callV' (M' := m_P_charactersInAll) (ax := []) (cv := cvI) (host := none) (st := []) h (fun q h l => s_P_charactersInAll d p0 S q h l D) hc_0 rfl d_P_demandRoom_1 wm_P_200 wc_P_charactersInAll rfl (Nat.le_of_ble_eq_true rfl) (fun q1 h => ?_)
  show V _ _ _ _ _ _ _ (.int q1.1 :: []) _
  refine x_sipush (v := 4096) d_P_demandRoom_4 (by decide) ?_
  refine x_iload_n 1 d_P_demandRoom_7 rfl rfl ?_
  refine x_isub d_P_demandRoom_8 ?_
  refine x_icmp_le (tgt := 22) d_P_demandRoom_9 (by decide) h (fun h => ?_) (fun h => ?_)
  · refine x_aload_n 0 d_P_demandRoom_22 rfl rfl ?_
    refine x_callV' (M' := m_P_piecesInAll) (ax := []) (cv := cvI) (host := none) (st := []) h (fun q h l => s_P_piecesInAll d p0 q1.2 q h l D) hc_0 rfl d_P_demandRoom_23 wm_P_203 wc_P_piecesInAll rfl (Nat.le_of_ble_eq_true rfl) (fun q2 h => ?_)
    show V _ _ _ _ _ _ _ (.int q2.1 :: []) _
    refine x_sipush (v := 1024) d_P_demandRoom_26 (by decide) ?_
    refine x_iload_n 2 d_P_demandRoom_29 rfl rfl ?_
    refine x_isub d_P_demandRoom_30 ?_
    refine x_icmp_le (tgt := 44) d_P_demandRoom_31 (by decide) h (fun h => ?_) (fun h => ?_)
    · cases h
      exact x_vret rfl d_P_demandRoom_44
    · exact x_throwV h rfl rfl (by decide) wk_P_41 wi_IllegalStateException wt_P_224 wj_P_45 d_P_demandRoom_34 d_P_demandRoom_37 d_P_demandRoom_38 d_P_demandRoom_40 d_P_demandRoom_43 (Nat.le_of_ble_eq_true rfl)
  · exact x_throwV h rfl rfl (by decide) wk_P_41 wi_IllegalStateException wt_P_222 wj_P_45 d_P_demandRoom_12 d_P_demandRoom_15 d_P_demandRoom_16 d_P_demandRoom_18 d_P_demandRoom_21 (Nat.le_of_ble_eq_true rfl)
theorem s_P_demandRoom : ∀ (d : Nat) (p0 : Option Nat) (p1 : Int32) (p2 : Int32) (S : xS) (z : (Unit ⊕ Nat) × xS), f_P_demandRoom d p0 p1 p2 S = some z → ∀ (l : Launch) (D : xD), xMet l m_P_demandRoom D d [.inr (.inr p0), .inl p1, .inl p2] S (cvU z) := by
  intro d
  induction d with
  | zero =>
    intro p0 p1 p2 S z h
    cases h
  | succ d ih =>
    intro p0 p1 p2 S z h l D
    exact x_ofV rfl (by decide) (Nat.le_of_ble_eq_true rfl) (te_P_demandRoom  p0 p1 p2 S z h)
set_option maxRecDepth 100000 in
set_option maxHeartbeats 4000000 in
theorem tb_P_put_27 {D : xD} {d : Nat} {S0 : xS} : ∀  (S : xS) (z : (Int32 ⊕ Nat) × xS), b_P_put_27 d  S = some z → V m_P_put D (d + 1) S0 (cvT z) 27 [] [] S := by
  intro  S z h
  unfold b_P_put_27 at h
  exact x_throwI h rfl rfl (by decide) wk_P_54 wi_IndexOutOfBoundsException wt_P_56 wj_P_58 d_P_put_27 d_P_put_30 d_P_put_31 d_P_put_33 d_P_put_36 (Nat.le_of_ble_eq_true rfl)
set_option maxRecDepth 100000 in
set_option maxHeartbeats 4000000 in
theorem te_P_put {D : xD} {d : Nat} {S0 : xS} : ∀ (p0 : Option Nat) (p1 : Int32) (p2 : Int32) (p3 : Int32) (p4 : Int32) (p5 : Int32) (S : xS) (z : (Int32 ⊕ Nat) × xS), e_P_put d p0 p1 p2 p3 p4 p5 S = some z → V m_P_put D (d + 1) S0 (cvT z) 0 [(0, .inr (.inr p0)), (1, .inl p1), (2, .inl p2), (3, .inl p3), (4, .inl p4), (5, .inl p5)] [] S := by
  intro p0 p1 p2 p3 p4 p5 S z h
  unfold e_P_put at h
  refine x_aload_n 0 d_P_put_0 rfl rfl ?_
  refine x_iload_n 1 d_P_put_1 rfl rfl ?_
  refine x_iload_n 2 d_P_put_2 rfl rfl ?_
  refine x_callV' (M' := m_P_demandEdge) (ax := [.inl p1, .inl p2]) (cv := cvU) (host := none) (st := []) h (fun q h l => s_P_demandEdge d p0 p1 p2 S q h l D) hc_0 rfl d_P_put_3 wm_P_50 wc_P_demandEdge rfl (Nat.le_of_ble_eq_true rfl) (fun q1 h => ?_)
  refine x_tryV h (fun v2 h => ?_) (fun e h => ?_)
  · refine x_iload 4 d_P_put_6 rfl ?_
    refine x_iconst (v := 1) d_P_put_8 (by decide) ?_
    refine x_icmp_lt (tgt := 27) d_P_put_9 (by decide) h (fun h => ?_) (fun h => ?_)
    · refine x_ls [] rfl ?_
      exact tb_P_put_27 q1.2 _ h
    · refine x_iload_n 3 d_P_put_12 rfl rfl ?_
      refine x_if_lt (tgt := 27) d_P_put_13 (by decide) h (fun h => ?_) (fun h => ?_)
      · refine x_ls [] rfl ?_
        exact tb_P_put_27 q1.2 _ h
      · refine x_iload_n 3 d_P_put_16 rfl rfl ?_
        refine x_aload_n 0 d_P_put_17 rfl rfl ?_
        refine x_getI (host := none) h hc_0 hi_0 (by decide) wf_P_37 d_P_put_18 (fun v3 h => ?_)
        refine x_iload 4 d_P_put_21 rfl ?_
        refine x_isub d_P_put_23 ?_
        refine x_icmp_le (tgt := 37) d_P_put_24 (by decide) h (fun h => ?_) (fun h => ?_)
        · refine x_aload_n 0 d_P_put_37 rfl rfl ?_
          refine x_iload_n 1 d_P_put_38 rfl rfl ?_
          refine x_callV' (M' := m_P_rootOf) (ax := [.inl p1]) (cv := cvR) (host := none) (st := []) h (fun q h l => s_P_rootOf d p0 p1 q1.2 q h l D) hc_0 rfl d_P_put_39 wm_P_59 wc_P_rootOf rfl (Nat.le_of_ble_eq_true rfl) (fun q4 h => ?_)
          show V _ _ _ _ _ _ _ (va_rf q4.1 :: []) _
          refine x_astore (lv' := [(6, .inr (.inr q4.1)), (0, .inr (.inr p0)), (1, .inl p1), (2, .inl p2), (3, .inl p3), (4, .inl p4), (5, .inl p5)]) d_P_put_42 (by decide) rfl ?_
          refine x_aload_n 1 d_P_put_44 rfl rfl ?_
          refine x_iload 5 d_P_put_45 rfl ?_
          refine x_aload 0 d_P_put_47 rfl ?_
          refine x_iload_n 3 d_P_put_49 rfl rfl ?_
          refine x_iload_n 4 d_P_put_50 rfl rfl ?_
          refine x_iload 5 d_P_put_51 rfl ?_
          refine x_iload 6 d_P_put_53 rfl ?_
          refine x_callS' (M' := m_Y_afterPut) (ax := [.inr (.inr q4.1), .inl p2, .inl p3, .inl p4, .inl p5]) (cv := cvI) (host := (some "PieceTexts")) (st := [.int p4, va_rf p0]) h (fun q h l => s_Y_afterPut d q4.1 p2 p3 p4 p5 q4.2 q h l D) rfl d_P_put_55 wm_P_63 wc_Y_afterPut rfl (Nat.le_of_ble_eq_true rfl) (fun q5 h => ?_)
          show V _ _ _ _ _ _ _ (.int q5.1 :: .int p4 :: va_rf p0 :: []) _
          refine x_aload 0 d_P_put_58 rfl ?_
          refine x_callS' (M' := m_R_piecesOf) (ax := [.inr (.inr q4.1)]) (cv := cvI) (host := (some "PieceTexts")) (st := [.int q5.1, .int p4, va_rf p0]) h (fun q h l => s_R_piecesOf d q4.1 q5.2 q h l D) rfl d_P_put_60 wm_P_69 wc_R_piecesOf rfl (Nat.le_of_ble_eq_true rfl) (fun q6 h => ?_)
          show V _ _ _ _ _ _ _ (.int q6.1 :: .int q5.1 :: .int p4 :: va_rf p0 :: []) _
          refine x_isub d_P_put_63 ?_
          refine x_callV' (M' := m_P_demandRoom) (ax := [.inl p4, .inl (q5.1 - q6.1)]) (cv := cvU) (host := none) (st := []) h (fun q h l => s_P_demandRoom d p0 p4 (q5.1 - q6.1) q6.2 q h l D) hc_0 rfl d_P_put_64 wm_P_75 wc_P_demandRoom rfl (Nat.le_of_ble_eq_true rfl) (fun q7 h => ?_)
          refine x_tryV h (fun v8 h => ?_) (fun e h => ?_)
          · refine x_aload_n 1 d_P_put_67 rfl rfl ?_
            refine x_getR (host := none) h hc_0 hi_0 (by decide) wf_P_22 d_P_put_68 (fun v9 h => ?_)
            refine x_aload 0 d_P_put_71 rfl ?_
            refine x_iload_n 3 d_P_put_73 rfl rfl ?_
            refine x_callV' (M' := m_T_part) (ax := [.inr (.inr q4.1), .inl p2]) (cv := cvR) (host := (some "PieceTexts")) (st := []) h (fun q h l => s_T_part d v9 q4.1 p2 q7.2 q h l D) hc_4 rfl d_P_put_74 wm_P_78 wc_T_part rfl (Nat.le_of_ble_eq_true rfl) (fun q10 h => ?_)
            show V _ _ _ _ _ _ _ (va_rf q10.1 :: []) _
            refine x_astore (lv' := [(7, .inr (.inr q10.1)), (6, .inr (.inr q4.1)), (0, .inr (.inr p0)), (1, .inl p1), (2, .inl p2), (3, .inl p3), (4, .inl p4), (5, .inl p5)]) d_P_put_77 (by decide) rfl ?_
            refine x_aload_n 2 d_P_put_79 rfl rfl ?_
            refine x_getR (host := none) h hc_0 hi_0 (by decide) wf_P_22 d_P_put_80 (fun v11 h => ?_)
            refine x_iload_n 5 d_P_put_83 rfl rfl ?_
            refine x_iload 6 d_P_put_84 rfl ?_
            refine x_iload 7 d_P_put_86 rfl ?_
            refine x_callV' (M' := m_T_take) (ax := [.inl p3, .inl p4, .inl p5]) (cv := cvR) (host := (some "PieceTexts")) (st := []) h (fun q h l => s_T_take d v11 p3 p4 p5 q10.2 q h l D) hc_4 rfl d_P_put_88 wm_P_82 wc_T_take rfl (Nat.le_of_ble_eq_true rfl) (fun q12 h => ?_)
            show V _ _ _ _ _ _ _ (va_rf q12.1 :: []) _
            refine x_astore (lv' := [(8, .inr (.inr q12.1)), (7, .inr (.inr q10.1)), (6, .inr (.inr q4.1)), (0, .inr (.inr p0)), (1, .inl p1), (2, .inl p2), (3, .inl p3), (4, .inl p4), (5, .inl p5)]) d_P_put_91 (by decide) rfl ?_
            refine x_aload_n 3 d_P_put_93 rfl rfl ?_
            refine x_iload_n 4 d_P_put_94 rfl rfl ?_
            refine x_aload_n 3 d_P_put_95 rfl rfl ?_
            refine x_getR (host := none) h hc_0 hi_0 (by decide) wf_P_22 d_P_put_96 (fun v13 h => ?_)
            refine x_aload_n 3 d_P_put_99 rfl rfl ?_
            refine x_getR (host := none) h hc_0 hi_0 (by decide) wf_P_22 d_P_put_100 (fun v14 h => ?_)
            refine x_aload 1 d_P_put_103 rfl ?_
            refine x_getR (host := (some "PieceTexts")) h hc_1 hi_1 (by decide) wf_P_86 d_P_put_105 (fun v15 h => ?_)
            refine x_aload 0 d_P_put_108 rfl ?_
            refine x_callV' (M' := m_T_meet) (ax := [.inr (.inr v15), .inr (.inr q12.1)]) (cv := cvR) (host := (some "PieceTexts")) (st := [va_rf v13, .int p1, va_rf p0]) h (fun q h l => s_T_meet d v14 v15 q12.1 q12.2 q h l D) hc_4 rfl d_P_put_110 wm_P_92 wc_T_meet rfl (Nat.le_of_ble_eq_true rfl) (fun q16 h => ?_)
            show V _ _ _ _ _ _ _ (va_rf q16.1 :: va_rf v13 :: .int p1 :: va_rf p0 :: []) _
            refine x_aload 1 d_P_put_113 rfl ?_
            refine x_getR (host := (some "PieceTexts")) h hc_1 hi_1 (by decide) wf_P_96 d_P_put_115 (fun v17 h => ?_)
            refine x_callV' (M' := m_T_meet) (ax := [.inr (.inr q16.1), .inr (.inr v17)]) (cv := cvR) (host := (some "PieceTexts")) (st := [.int p1, va_rf p0]) h (fun q h l => s_T_meet d v13 q16.1 v17 q16.2 q h l D) hc_4 rfl d_P_put_118 wm_P_92 wc_T_meet rfl (Nat.le_of_ble_eq_true rfl) (fun q18 h => ?_)
            show V _ _ _ _ _ _ _ (va_rf q18.1 :: .int p1 :: va_rf p0 :: []) _
            refine x_callV' (M' := m_P_become) (ax := [.inl p1, .inr (.inr q18.1)]) (cv := cvI) (host := none) (st := []) h (fun q h l => s_P_become d p0 p1 q18.1 q18.2 q h l D) hc_0 rfl d_P_put_121 wm_P_99 wc_P_become rfl (Nat.le_of_ble_eq_true rfl) (fun q19 h => ?_)
            show V _ _ _ _ _ _ _ (.int q19.1 :: []) _
            cases h
            exact x_iret rfl d_P_put_124
          · cases h
            rfl
        · refine x_ls [] rfl ?_
          exact tb_P_put_27 q1.2 _ h
  · cases h
    rfl
theorem s_P_put : ∀ (d : Nat) (p0 : Option Nat) (p1 : Int32) (p2 : Int32) (p3 : Int32) (p4 : Int32) (p5 : Int32) (S : xS) (z : (Int32 ⊕ Nat) × xS), f_P_put d p0 p1 p2 p3 p4 p5 S = some z → ∀ (l : Launch) (D : xD), xMet l m_P_put D d [.inr (.inr p0), .inl p1, .inl p2, .inl p3, .inl p4, .inl p5] S (cvT z) := by
  intro d
  induction d with
  | zero =>
    intro p0 p1 p2 p3 p4 p5 S z h
    cases h
  | succ d ih =>
    intro p0 p1 p2 p3 p4 p5 S z h l D
    exact x_ofV rfl (by decide) (Nat.le_of_ble_eq_true rfl) (te_P_put  p0 p1 p2 p3 p4 p5 S z h)
set_option maxRecDepth 100000 in
set_option maxHeartbeats 4000000 in
theorem tb_P_demandFree_13 {D : xD} {d : Nat} {S0 : xS} : ∀  (S : xS) (z : (Unit ⊕ Nat) × xS), b_P_demandFree_13 d  S = some z → V m_P_demandFree D (d + 1) S0 (cvU z) 13 [] [] S := by
  intro  S z h
  unfold b_P_demandFree_13 at h
  exact x_throwV h rfl rfl (by decide) wk_P_30 wi_IllegalArgumentException wt_P_220 wj_P_34 d_P_demandFree_13 d_P_demandFree_16 d_P_demandFree_17 d_P_demandFree_19 d_P_demandFree_22 (Nat.le_of_ble_eq_true rfl)
set_option maxRecDepth 100000 in
set_option maxHeartbeats 4000000 in
theorem te_P_demandFree {D : xD} {d : Nat} {S0 : xS} : ∀ (p0 : Option Nat) (p1 : Int32) (p2 : Int32) (S : xS) (z : (Unit ⊕ Nat) × xS), e_P_demandFree d p0 p1 p2 S = some z → V m_P_demandFree D (d + 1) S0 (cvU z) 0 [(0, .inr (.inr p0)), (1, .inl p1), (2, .inl p2)] [] S := by
  intro p0 p1 p2 S z h
  unfold e_P_demandFree at h
  refine x_iload_n 1 d_P_demandFree_0 rfl rfl ?_
  refine x_iload_n 2 d_P_demandFree_1 rfl rfl ?_
  refine x_icmp_eq (tgt := 13) d_P_demandFree_2 (by decide) h (fun h => ?_) (fun h => ?_)
  · refine x_ls [] rfl ?_
    exact tb_P_demandFree_13 S _ h
  · refine x_aload_n 0 d_P_demandFree_5 rfl rfl ?_
    refine x_iload_n 1 d_P_demandFree_6 rfl rfl ?_
    refine x_callV' (M' := m_P_rootOf) (ax := [.inl p1]) (cv := cvR) (host := none) (st := []) h (fun q h l => s_P_rootOf d p0 p1 S q h l D) hc_0 rfl d_P_demandFree_7 wm_P_59 wc_P_rootOf rfl (Nat.le_of_ble_eq_true rfl) (fun q1 h => ?_)
    show V _ _ _ _ _ _ _ (va_rf q1.1 :: []) _
    refine x_ifnull (tgt := 23) d_P_demandFree_10 (by decide) h (fun _ h => ?_) (fun _ _ h => ?_)
    · cases h
      exact x_vret rfl d_P_demandFree_23
    · refine x_ls [] rfl ?_
      exact tb_P_demandFree_13 q1.2 _ h
theorem s_P_demandFree : ∀ (d : Nat) (p0 : Option Nat) (p1 : Int32) (p2 : Int32) (S : xS) (z : (Unit ⊕ Nat) × xS), f_P_demandFree d p0 p1 p2 S = some z → ∀ (l : Launch) (D : xD), xMet l m_P_demandFree D d [.inr (.inr p0), .inl p1, .inl p2] S (cvU z) := by
  intro d
  induction d with
  | zero =>
    intro p0 p1 p2 S z h
    cases h
  | succ d ih =>
    intro p0 p1 p2 S z h l D
    exact x_ofV rfl (by decide) (Nat.le_of_ble_eq_true rfl) (te_P_demandFree  p0 p1 p2 S z h)
set_option maxRecDepth 100000 in
set_option maxHeartbeats 4000000 in
theorem tb_P_demandRange_27 {D : xD} {d : Nat} {S0 : xS} : ∀  (S : xS) (z : (Unit ⊕ Nat) × xS), b_P_demandRange_27 d  S = some z → V m_P_demandRange D (d + 1) S0 (cvU z) 27 [] [] S := by
  intro  S z h
  unfold b_P_demandRange_27 at h
  exact x_throwV h rfl rfl (by decide) wk_P_54 wi_IndexOutOfBoundsException wt_P_218 wj_P_58 d_P_demandRange_27 d_P_demandRange_30 d_P_demandRange_31 d_P_demandRange_33 d_P_demandRange_36 (Nat.le_of_ble_eq_true rfl)
set_option maxRecDepth 100000 in
set_option maxHeartbeats 4000000 in
theorem te_P_demandRange {D : xD} {d : Nat} {S0 : xS} : ∀ (p0 : Option Nat) (p1 : Int32) (p2 : Int32) (p3 : Int32) (S : xS) (z : (Unit ⊕ Nat) × xS), e_P_demandRange d p0 p1 p2 p3 S = some z → V m_P_demandRange D (d + 1) S0 (cvU z) 0 [(0, .inr (.inr p0)), (1, .inl p1), (2, .inl p2), (3, .inl p3)] [] S := by
  intro p0 p1 p2 p3 S z h
  unfold e_P_demandRange at h
  refine x_aload_n 0 d_P_demandRange_0 rfl rfl ?_
  refine x_iload_n 1 d_P_demandRange_1 rfl rfl ?_
  refine x_callV' (M' := m_P_demandText) (ax := [.inl p1]) (cv := cvU) (host := none) (st := []) h (fun q h l => s_P_demandText d p0 p1 S q h l D) hc_0 rfl d_P_demandRange_2 wm_P_107 wc_P_demandText rfl (Nat.le_of_ble_eq_true rfl) (fun q1 h => ?_)
  refine x_tryV h (fun v2 h => ?_) (fun e h => ?_)
  · refine x_iload_n 3 d_P_demandRange_5 rfl rfl ?_
    refine x_if_lt (tgt := 27) d_P_demandRange_6 (by decide) h (fun h => ?_) (fun h => ?_)
    · refine x_ls [] rfl ?_
      exact tb_P_demandRange_27 q1.2 _ h
    · refine x_iload_n 2 d_P_demandRange_9 rfl rfl ?_
      refine x_if_lt (tgt := 27) d_P_demandRange_10 (by decide) h (fun h => ?_) (fun h => ?_)
      · refine x_ls [] rfl ?_
        exact tb_P_demandRange_27 q1.2 _ h
      · refine x_iload_n 2 d_P_demandRange_13 rfl rfl ?_
        refine x_aload_n 0 d_P_demandRange_14 rfl rfl ?_
        refine x_iload_n 1 d_P_demandRange_15 rfl rfl ?_
        refine x_callV' (M' := m_P_rootOf) (ax := [.inl p1]) (cv := cvR) (host := none) (st := [.int p2]) h (fun q h l => s_P_rootOf d p0 p1 q1.2 q h l D) hc_0 rfl d_P_demandRange_16 wm_P_59 wc_P_rootOf rfl (Nat.le_of_ble_eq_true rfl) (fun q3 h => ?_)
        show V _ _ _ _ _ _ _ (va_rf q3.1 :: .int p2 :: []) _
        refine x_callS' (M' := m_R_charactersOf) (ax := [.inr (.inr q3.1)]) (cv := cvI) (host := (some "PieceTexts")) (st := [.int p2]) h (fun q h l => s_R_charactersOf d q3.1 q3.2 q h l D) rfl d_P_demandRange_19 wm_P_137 wc_R_charactersOf rfl (Nat.le_of_ble_eq_true rfl) (fun q4 h => ?_)
        show V _ _ _ _ _ _ _ (.int q4.1 :: .int p2 :: []) _
        refine x_iload_n 3 d_P_demandRange_22 rfl rfl ?_
        refine x_isub d_P_demandRange_23 ?_
        refine x_icmp_le (tgt := 37) d_P_demandRange_24 (by decide) h (fun h => ?_) (fun h => ?_)
        · cases h
          exact x_vret rfl d_P_demandRange_37
        · refine x_ls [] rfl ?_
          exact tb_P_demandRange_27 q4.2 _ h
  · cases h
    rfl
theorem s_P_demandRange : ∀ (d : Nat) (p0 : Option Nat) (p1 : Int32) (p2 : Int32) (p3 : Int32) (S : xS) (z : (Unit ⊕ Nat) × xS), f_P_demandRange d p0 p1 p2 p3 S = some z → ∀ (l : Launch) (D : xD), xMet l m_P_demandRange D d [.inr (.inr p0), .inl p1, .inl p2, .inl p3] S (cvU z) := by
  intro d
  induction d with
  | zero =>
    intro p0 p1 p2 p3 S z h
    cases h
  | succ d ih =>
    intro p0 p1 p2 p3 S z h l D
    exact x_ofV rfl (by decide) (Nat.le_of_ble_eq_true rfl) (te_P_demandRange  p0 p1 p2 p3 S z h)
set_option maxRecDepth 100000 in
set_option maxHeartbeats 4000000 in
theorem te_P_cut {D : xD} {d : Nat} {S0 : xS} : ∀ (p0 : Option Nat) (p1 : Int32) (p2 : Int32) (p3 : Int32) (p4 : Int32) (S : xS) (z : (Int32 ⊕ Nat) × xS), e_P_cut d p0 p1 p2 p3 p4 S = some z → V m_P_cut D (d + 1) S0 (cvT z) 0 [(0, .inr (.inr p0)), (1, .inl p1), (2, .inl p2), (3, .inl p3), (4, .inl p4)] [] S := by
  intro p0 p1 p2 p3 p4 S z h
  unfold e_P_cut at h
  refine x_aload_n 0 d_P_cut_0 rfl rfl ?_
  refine x_iload_n 1 d_P_cut_1 rfl rfl ?_
  refine x_iload_n 2 d_P_cut_2 rfl rfl ?_
  refine x_iload_n 3 d_P_cut_3 rfl rfl ?_
  refine x_callV' (M' := m_P_demandRange) (ax := [.inl p1, .inl p2, .inl p3]) (cv := cvU) (host := none) (st := []) h (fun q h l => s_P_demandRange d p0 p1 p2 p3 S q h l D) hc_0 rfl d_P_cut_4 wm_P_103 wc_P_demandRange rfl (Nat.le_of_ble_eq_true rfl) (fun q1 h => ?_)
  refine x_tryV h (fun v2 h => ?_) (fun e h => ?_)
  · refine x_aload_n 0 d_P_cut_7 rfl rfl ?_
    refine x_iload 4 d_P_cut_8 rfl ?_
    refine x_callV' (M' := m_P_demandText) (ax := [.inl p4]) (cv := cvU) (host := none) (st := []) h (fun q h l => s_P_demandText d p0 p4 q1.2 q h l D) hc_0 rfl d_P_cut_10 wm_P_107 wc_P_demandText rfl (Nat.le_of_ble_eq_true rfl) (fun q3 h => ?_)
    refine x_tryV h (fun v4 h => ?_) (fun e h => ?_)
    · refine x_aload_n 0 d_P_cut_13 rfl rfl ?_
      refine x_iload 4 d_P_cut_14 rfl ?_
      refine x_iload_n 1 d_P_cut_16 rfl rfl ?_
      refine x_callV' (M' := m_P_demandFree) (ax := [.inl p4, .inl p1]) (cv := cvU) (host := none) (st := []) h (fun q h l => s_P_demandFree d p0 p4 p1 q3.2 q h l D) hc_0 rfl d_P_cut_17 wm_P_111 wc_P_demandFree rfl (Nat.le_of_ble_eq_true rfl) (fun q5 h => ?_)
      refine x_tryV h (fun v6 h => ?_) (fun e h => ?_)
      · refine x_aload_n 0 d_P_cut_20 rfl rfl ?_
        refine x_iload_n 1 d_P_cut_21 rfl rfl ?_
        refine x_callV' (M' := m_P_rootOf) (ax := [.inl p1]) (cv := cvR) (host := none) (st := []) h (fun q h l => s_P_rootOf d p0 p1 q5.2 q h l D) hc_0 rfl d_P_cut_22 wm_P_59 wc_P_rootOf rfl (Nat.le_of_ble_eq_true rfl) (fun q7 h => ?_)
        show V _ _ _ _ _ _ _ (va_rf q7.1 :: []) _
        refine x_astore (lv' := [(5, .inr (.inr q7.1)), (0, .inr (.inr p0)), (1, .inl p1), (2, .inl p2), (3, .inl p3), (4, .inl p4)]) d_P_cut_25 (by decide) rfl ?_
        refine x_aload_n 1 d_P_cut_27 rfl rfl ?_
        refine x_iconst (v := 0) d_P_cut_28 (by decide) ?_
        refine x_aload 0 d_P_cut_29 rfl ?_
        refine x_iload_n 3 d_P_cut_31 rfl rfl ?_
        refine x_iload_n 4 d_P_cut_32 rfl rfl ?_
        refine x_callS' (M' := m_Y_afterCut) (ax := [.inr (.inr q7.1), .inl p2, .inl p3]) (cv := cvI) (host := (some "PieceTexts")) (st := [.int 0, va_rf p0]) h (fun q h l => s_Y_afterCut d q7.1 p2 p3 q7.2 q h l D) rfl d_P_cut_33 wm_P_114 wc_Y_afterCut rfl (Nat.le_of_ble_eq_true rfl) (fun q8 h => ?_)
        show V _ _ _ _ _ _ _ (.int q8.1 :: .int 0 :: va_rf p0 :: []) _
        refine x_aload 0 d_P_cut_36 rfl ?_
        refine x_iload_n 3 d_P_cut_38 rfl rfl ?_
        refine x_iload_n 4 d_P_cut_39 rfl rfl ?_
        refine x_callS' (M' := m_Y_within) (ax := [.inr (.inr q7.1), .inl p2, .inl p3]) (cv := cvI) (host := (some "PieceTexts")) (st := [.int q8.1, .int 0, va_rf p0]) h (fun q h l => s_Y_within d q7.1 p2 p3 q8.2 q h l D) rfl d_P_cut_40 wm_P_118 wc_Y_within rfl (Nat.le_of_ble_eq_true rfl) (fun q9 h => ?_)
        show V _ _ _ _ _ _ _ (.int q9.1 :: .int q8.1 :: .int 0 :: va_rf p0 :: []) _
        refine x_iadd d_P_cut_43 ?_
        refine x_aload 0 d_P_cut_44 rfl ?_
        refine x_callS' (M' := m_R_piecesOf) (ax := [.inr (.inr q7.1)]) (cv := cvI) (host := (some "PieceTexts")) (st := [.int (q8.1 + q9.1), .int 0, va_rf p0]) h (fun q h l => s_R_piecesOf d q7.1 q9.2 q h l D) rfl d_P_cut_46 wm_P_69 wc_R_piecesOf rfl (Nat.le_of_ble_eq_true rfl) (fun q10 h => ?_)
        show V _ _ _ _ _ _ _ (.int q10.1 :: .int (q8.1 + q9.1) :: .int 0 :: va_rf p0 :: []) _
        refine x_isub d_P_cut_49 ?_
        refine x_callV' (M' := m_P_demandRoom) (ax := [.inl 0, .inl ((q8.1 + q9.1) - q10.1)]) (cv := cvU) (host := none) (st := []) h (fun q h l => s_P_demandRoom d p0 0 ((q8.1 + q9.1) - q10.1) q10.2 q h l D) hc_0 rfl d_P_cut_50 wm_P_75 wc_P_demandRoom rfl (Nat.le_of_ble_eq_true rfl) (fun q11 h => ?_)
        refine x_tryV h (fun v12 h => ?_) (fun e h => ?_)
        · refine x_aload_n 1 d_P_cut_53 rfl rfl ?_
          refine x_getR (host := none) h hc_0 hi_0 (by decide) wf_P_22 d_P_cut_54 (fun v13 h => ?_)
          refine x_aload 0 d_P_cut_57 rfl ?_
          refine x_iload_n 3 d_P_cut_59 rfl rfl ?_
          refine x_callV' (M' := m_T_part) (ax := [.inr (.inr q7.1), .inl p2]) (cv := cvR) (host := (some "PieceTexts")) (st := []) h (fun q h l => s_T_part d v13 q7.1 p2 q11.2 q h l D) hc_4 rfl d_P_cut_60 wm_P_78 wc_T_part rfl (Nat.le_of_ble_eq_true rfl) (fun q14 h => ?_)
          show V _ _ _ _ _ _ _ (va_rf q14.1 :: []) _
          refine x_astore (lv' := [(6, .inr (.inr q14.1)), (5, .inr (.inr q7.1)), (0, .inr (.inr p0)), (1, .inl p1), (2, .inl p2), (3, .inl p3), (4, .inl p4)]) d_P_cut_63 (by decide) rfl ?_
          refine x_aload_n 2 d_P_cut_65 rfl rfl ?_
          refine x_getR (host := none) h hc_0 hi_0 (by decide) wf_P_22 d_P_cut_66 (fun v15 h => ?_)
          refine x_aload 0 d_P_cut_69 rfl ?_
          refine x_getR (host := (some "PieceTexts")) h hc_1 hi_1 (by decide) wf_P_96 d_P_cut_71 (fun v16 h => ?_)
          refine x_iload_n 5 d_P_cut_74 rfl rfl ?_
          refine x_callV' (M' := m_T_part) (ax := [.inr (.inr v16), .inl p3]) (cv := cvR) (host := (some "PieceTexts")) (st := []) h (fun q h l => s_T_part d v15 v16 p3 q14.2 q h l D) hc_4 rfl d_P_cut_75 wm_P_78 wc_T_part rfl (Nat.le_of_ble_eq_true rfl) (fun q17 h => ?_)
          show V _ _ _ _ _ _ _ (va_rf q17.1 :: []) _
          refine x_astore (lv' := [(7, .inr (.inr q17.1)), (6, .inr (.inr q14.1)), (5, .inr (.inr q7.1)), (0, .inr (.inr p0)), (1, .inl p1), (2, .inl p2), (3, .inl p3), (4, .inl p4)]) d_P_cut_78 (by decide) rfl ?_
          refine x_aload_n 3 d_P_cut_80 rfl rfl ?_
          refine x_iload 7 d_P_cut_81 rfl ?_
          refine x_aload 0 d_P_cut_83 rfl ?_
          refine x_getR (host := (some "PieceTexts")) h hc_1 hi_1 (by decide) wf_P_86 d_P_cut_85 (fun v18 h => ?_)
          refine x_callV' (M' := m_P_become) (ax := [.inl p4, .inr (.inr v18)]) (cv := cvI) (host := none) (st := []) h (fun q h l => s_P_become d p0 p4 v18 q17.2 q h l D) hc_0 rfl d_P_cut_88 wm_P_99 wc_P_become rfl (Nat.le_of_ble_eq_true rfl) (fun q19 h => ?_)
          show V _ _ _ _ _ _ _ (.int q19.1 :: []) _
          refine x_pop d_P_cut_91 rfl ?_
          refine x_aload_n 3 d_P_cut_92 rfl rfl ?_
          refine x_iload_n 4 d_P_cut_93 rfl rfl ?_
          refine x_aload_n 3 d_P_cut_94 rfl rfl ?_
          refine x_getR (host := none) h hc_0 hi_0 (by decide) wf_P_22 d_P_cut_95 (fun v20 h => ?_)
          refine x_aload 1 d_P_cut_98 rfl ?_
          refine x_getR (host := (some "PieceTexts")) h hc_1 hi_1 (by decide) wf_P_86 d_P_cut_100 (fun v21 h => ?_)
          refine x_aload 0 d_P_cut_103 rfl ?_
          refine x_getR (host := (some "PieceTexts")) h hc_1 hi_1 (by decide) wf_P_96 d_P_cut_105 (fun v22 h => ?_)
          refine x_callV' (M' := m_T_meet) (ax := [.inr (.inr v21), .inr (.inr v22)]) (cv := cvR) (host := (some "PieceTexts")) (st := [.int p1, va_rf p0]) h (fun q h l => s_T_meet d v20 v21 v22 q19.2 q h l D) hc_4 rfl d_P_cut_108 wm_P_92 wc_T_meet rfl (Nat.le_of_ble_eq_true rfl) (fun q23 h => ?_)
          show V _ _ _ _ _ _ _ (va_rf q23.1 :: .int p1 :: va_rf p0 :: []) _
          refine x_callV' (M' := m_P_become) (ax := [.inl p1, .inr (.inr q23.1)]) (cv := cvI) (host := none) (st := []) h (fun q h l => s_P_become d p0 p1 q23.1 q23.2 q h l D) hc_0 rfl d_P_cut_111 wm_P_99 wc_P_become rfl (Nat.le_of_ble_eq_true rfl) (fun q24 h => ?_)
          show V _ _ _ _ _ _ _ (.int q24.1 :: []) _
          cases h
          exact x_iret rfl d_P_cut_114
        · cases h
          rfl
      · cases h
        rfl
    · cases h
      rfl
  · cases h
    rfl
theorem s_P_cut : ∀ (d : Nat) (p0 : Option Nat) (p1 : Int32) (p2 : Int32) (p3 : Int32) (p4 : Int32) (S : xS) (z : (Int32 ⊕ Nat) × xS), f_P_cut d p0 p1 p2 p3 p4 S = some z → ∀ (l : Launch) (D : xD), xMet l m_P_cut D d [.inr (.inr p0), .inl p1, .inl p2, .inl p3, .inl p4] S (cvT z) := by
  intro d
  induction d with
  | zero =>
    intro p0 p1 p2 p3 p4 S z h
    cases h
  | succ d ih =>
    intro p0 p1 p2 p3 p4 S z h l D
    exact x_ofV rfl (by decide) (Nat.le_of_ble_eq_true rfl) (te_P_cut  p0 p1 p2 p3 p4 S z h)
set_option maxRecDepth 100000 in
set_option maxHeartbeats 4000000 in
theorem te_P_paste {D : xD} {d : Nat} {S0 : xS} : ∀ (p0 : Option Nat) (p1 : Int32) (p2 : Int32) (p3 : Int32) (S : xS) (z : (Int32 ⊕ Nat) × xS), e_P_paste d p0 p1 p2 p3 S = some z → V m_P_paste D (d + 1) S0 (cvT z) 0 [(0, .inr (.inr p0)), (1, .inl p1), (2, .inl p2), (3, .inl p3)] [] S := by
  intro p0 p1 p2 p3 S z h
  unfold e_P_paste at h
  refine x_aload_n 0 d_P_paste_0 rfl rfl ?_
  refine x_iload_n 1 d_P_paste_1 rfl rfl ?_
  refine x_iload_n 2 d_P_paste_2 rfl rfl ?_
  refine x_callV' (M' := m_P_demandEdge) (ax := [.inl p1, .inl p2]) (cv := cvU) (host := none) (st := []) h (fun q h l => s_P_demandEdge d p0 p1 p2 S q h l D) hc_0 rfl d_P_paste_3 wm_P_50 wc_P_demandEdge rfl (Nat.le_of_ble_eq_true rfl) (fun q1 h => ?_)
  refine x_tryV h (fun v2 h => ?_) (fun e h => ?_)
  · refine x_aload_n 0 d_P_paste_6 rfl rfl ?_
    refine x_iload_n 3 d_P_paste_7 rfl rfl ?_
    refine x_callV' (M' := m_P_demandText) (ax := [.inl p3]) (cv := cvU) (host := none) (st := []) h (fun q h l => s_P_demandText d p0 p3 q1.2 q h l D) hc_0 rfl d_P_paste_8 wm_P_107 wc_P_demandText rfl (Nat.le_of_ble_eq_true rfl) (fun q3 h => ?_)
    refine x_tryV h (fun v4 h => ?_) (fun e h => ?_)
    · refine x_iload_n 3 d_P_paste_11 rfl rfl ?_
      refine x_iload_n 1 d_P_paste_12 rfl rfl ?_
      refine x_icmp_ne (tgt := 26) d_P_paste_13 (by decide) h (fun h => ?_) (fun h => ?_)
      · refine x_aload_n 0 d_P_paste_26 rfl rfl ?_
        refine x_iload_n 1 d_P_paste_27 rfl rfl ?_
        refine x_callV' (M' := m_P_rootOf) (ax := [.inl p1]) (cv := cvR) (host := none) (st := []) h (fun q h l => s_P_rootOf d p0 p1 q3.2 q h l D) hc_0 rfl d_P_paste_28 wm_P_59 wc_P_rootOf rfl (Nat.le_of_ble_eq_true rfl) (fun q5 h => ?_)
        show V _ _ _ _ _ _ _ (va_rf q5.1 :: []) _
        refine x_astore (lv' := [(4, .inr (.inr q5.1)), (0, .inr (.inr p0)), (1, .inl p1), (2, .inl p2), (3, .inl p3)]) d_P_paste_31 (by decide) rfl ?_
        refine x_aload_n 1 d_P_paste_33 rfl rfl ?_
        refine x_iload_n 4 d_P_paste_34 rfl rfl ?_
        refine x_callV' (M' := m_P_rootOf) (ax := [.inl p3]) (cv := cvR) (host := none) (st := []) h (fun q h l => s_P_rootOf d p0 p3 q5.2 q h l D) hc_0 rfl d_P_paste_35 wm_P_59 wc_P_rootOf rfl (Nat.le_of_ble_eq_true rfl) (fun q6 h => ?_)
        show V _ _ _ _ _ _ _ (va_rf q6.1 :: []) _
        refine x_astore (lv' := [(5, .inr (.inr q6.1)), (4, .inr (.inr q5.1)), (0, .inr (.inr p0)), (1, .inl p1), (2, .inl p2), (3, .inl p3)]) d_P_paste_38 (by decide) rfl ?_
        refine x_aload_n 2 d_P_paste_40 rfl rfl ?_
        refine x_iconst (v := 0) d_P_paste_41 (by decide) ?_
        refine x_aload 1 d_P_paste_42 rfl ?_
        refine x_iload_n 4 d_P_paste_44 rfl rfl ?_
        refine x_aload 0 d_P_paste_45 rfl ?_
        refine x_callS' (M' := m_Y_afterPaste) (ax := [.inr (.inr q5.1), .inl p2, .inr (.inr q6.1)]) (cv := cvI) (host := (some "PieceTexts")) (st := [.int 0, va_rf p0]) h (fun q h l => s_Y_afterPaste d q5.1 p2 q6.1 q6.2 q h l D) rfl d_P_paste_47 wm_P_123 wc_Y_afterPaste rfl (Nat.le_of_ble_eq_true rfl) (fun q7 h => ?_)
        show V _ _ _ _ _ _ _ (.int q7.1 :: .int 0 :: va_rf p0 :: []) _
        refine x_aload 1 d_P_paste_50 rfl ?_
        refine x_callS' (M' := m_R_piecesOf) (ax := [.inr (.inr q5.1)]) (cv := cvI) (host := (some "PieceTexts")) (st := [.int q7.1, .int 0, va_rf p0]) h (fun q h l => s_R_piecesOf d q5.1 q7.2 q h l D) rfl d_P_paste_52 wm_P_69 wc_R_piecesOf rfl (Nat.le_of_ble_eq_true rfl) (fun q8 h => ?_)
        show V _ _ _ _ _ _ _ (.int q8.1 :: .int q7.1 :: .int 0 :: va_rf p0 :: []) _
        refine x_isub d_P_paste_55 ?_
        refine x_aload 0 d_P_paste_56 rfl ?_
        refine x_callS' (M' := m_R_piecesOf) (ax := [.inr (.inr q6.1)]) (cv := cvI) (host := (some "PieceTexts")) (st := [.int (q7.1 - q8.1), .int 0, va_rf p0]) h (fun q h l => s_R_piecesOf d q6.1 q8.2 q h l D) rfl d_P_paste_58 wm_P_69 wc_R_piecesOf rfl (Nat.le_of_ble_eq_true rfl) (fun q9 h => ?_)
        show V _ _ _ _ _ _ _ (.int q9.1 :: .int (q7.1 - q8.1) :: .int 0 :: va_rf p0 :: []) _
        refine x_isub d_P_paste_61 ?_
        refine x_callV' (M' := m_P_demandRoom) (ax := [.inl 0, .inl ((q7.1 - q8.1) - q9.1)]) (cv := cvU) (host := none) (st := []) h (fun q h l => s_P_demandRoom d p0 0 ((q7.1 - q8.1) - q9.1) q9.2 q h l D) hc_0 rfl d_P_paste_62 wm_P_75 wc_P_demandRoom rfl (Nat.le_of_ble_eq_true rfl) (fun q10 h => ?_)
        refine x_tryV h (fun v11 h => ?_) (fun e h => ?_)
        · refine x_aload_n 2 d_P_paste_65 rfl rfl ?_
          refine x_getR (host := none) h hc_0 hi_0 (by decide) wf_P_22 d_P_paste_66 (fun v12 h => ?_)
          refine x_aload 1 d_P_paste_69 rfl ?_
          refine x_iload_n 4 d_P_paste_71 rfl rfl ?_
          refine x_callV' (M' := m_T_part) (ax := [.inr (.inr q5.1), .inl p2]) (cv := cvR) (host := (some "PieceTexts")) (st := []) h (fun q h l => s_T_part d v12 q5.1 p2 q10.2 q h l D) hc_4 rfl d_P_paste_72 wm_P_78 wc_T_part rfl (Nat.le_of_ble_eq_true rfl) (fun q13 h => ?_)
          show V _ _ _ _ _ _ _ (va_rf q13.1 :: []) _
          refine x_astore (lv' := [(6, .inr (.inr q13.1)), (5, .inr (.inr q6.1)), (4, .inr (.inr q5.1)), (0, .inr (.inr p0)), (1, .inl p1), (2, .inl p2), (3, .inl p3)]) d_P_paste_75 (by decide) rfl ?_
          refine x_aload_n 3 d_P_paste_77 rfl rfl ?_
          refine x_iload_n 6 d_P_paste_78 rfl rfl ?_
          refine x_null d_P_paste_79 ?_
          refine x_callV' (M' := m_P_become) (ax := [.inl p3, .inr (.inr none)]) (cv := cvI) (host := none) (st := []) h (fun q h l => s_P_become d p0 p3 none q13.2 q h l D) hc_0 rfl d_P_paste_80 wm_P_99 wc_P_become rfl (Nat.le_of_ble_eq_true rfl) (fun q14 h => ?_)
          show V _ _ _ _ _ _ _ (.int q14.1 :: []) _
          refine x_pop d_P_paste_83 rfl ?_
          refine x_aload_n 3 d_P_paste_84 rfl rfl ?_
          refine x_iload_n 4 d_P_paste_85 rfl rfl ?_
          refine x_aload_n 3 d_P_paste_86 rfl rfl ?_
          refine x_getR (host := none) h hc_0 hi_0 (by decide) wf_P_22 d_P_paste_87 (fun v15 h => ?_)
          refine x_aload_n 3 d_P_paste_90 rfl rfl ?_
          refine x_getR (host := none) h hc_0 hi_0 (by decide) wf_P_22 d_P_paste_91 (fun v16 h => ?_)
          refine x_aload 0 d_P_paste_94 rfl ?_
          refine x_getR (host := (some "PieceTexts")) h hc_1 hi_1 (by decide) wf_P_86 d_P_paste_96 (fun v17 h => ?_)
          refine x_aload 1 d_P_paste_99 rfl ?_
          refine x_callV' (M' := m_T_meet) (ax := [.inr (.inr v17), .inr (.inr q6.1)]) (cv := cvR) (host := (some "PieceTexts")) (st := [va_rf v15, .int p1, va_rf p0]) h (fun q h l => s_T_meet d v16 v17 q6.1 q14.2 q h l D) hc_4 rfl d_P_paste_101 wm_P_92 wc_T_meet rfl (Nat.le_of_ble_eq_true rfl) (fun q18 h => ?_)
          show V _ _ _ _ _ _ _ (va_rf q18.1 :: va_rf v15 :: .int p1 :: va_rf p0 :: []) _
          refine x_aload 0 d_P_paste_104 rfl ?_
          refine x_getR (host := (some "PieceTexts")) h hc_1 hi_1 (by decide) wf_P_96 d_P_paste_106 (fun v19 h => ?_)
          refine x_callV' (M' := m_T_meet) (ax := [.inr (.inr q18.1), .inr (.inr v19)]) (cv := cvR) (host := (some "PieceTexts")) (st := [.int p1, va_rf p0]) h (fun q h l => s_T_meet d v15 q18.1 v19 q18.2 q h l D) hc_4 rfl d_P_paste_109 wm_P_92 wc_T_meet rfl (Nat.le_of_ble_eq_true rfl) (fun q20 h => ?_)
          show V _ _ _ _ _ _ _ (va_rf q20.1 :: .int p1 :: va_rf p0 :: []) _
          refine x_callV' (M' := m_P_become) (ax := [.inl p1, .inr (.inr q20.1)]) (cv := cvI) (host := none) (st := []) h (fun q h l => s_P_become d p0 p1 q20.1 q20.2 q h l D) hc_0 rfl d_P_paste_112 wm_P_99 wc_P_become rfl (Nat.le_of_ble_eq_true rfl) (fun q21 h => ?_)
          show V _ _ _ _ _ _ _ (.int q21.1 :: []) _
          cases h
          exact x_iret rfl d_P_paste_115
        · cases h
          rfl
      · exact x_throwI h rfl rfl (by decide) wk_P_30 wi_IllegalArgumentException wt_P_121 wj_P_34 d_P_paste_16 d_P_paste_19 d_P_paste_20 d_P_paste_22 d_P_paste_25 (Nat.le_of_ble_eq_true rfl)
    · cases h
      rfl
  · cases h
    rfl
theorem s_P_paste : ∀ (d : Nat) (p0 : Option Nat) (p1 : Int32) (p2 : Int32) (p3 : Int32) (S : xS) (z : (Int32 ⊕ Nat) × xS), f_P_paste d p0 p1 p2 p3 S = some z → ∀ (l : Launch) (D : xD), xMet l m_P_paste D d [.inr (.inr p0), .inl p1, .inl p2, .inl p3] S (cvT z) := by
  intro d
  induction d with
  | zero =>
    intro p0 p1 p2 p3 S z h
    cases h
  | succ d ih =>
    intro p0 p1 p2 p3 S z h l D
    exact x_ofV rfl (by decide) (Nat.le_of_ble_eq_true rfl) (te_P_paste  p0 p1 p2 p3 S z h)
set_option maxRecDepth 100000 in
set_option maxHeartbeats 4000000 in
theorem te_P_copy {D : xD} {d : Nat} {S0 : xS} : ∀ (p0 : Option Nat) (p1 : Int32) (p2 : Int32) (p3 : Int32) (p4 : Int32) (S : xS) (z : (Int32 ⊕ Nat) × xS), e_P_copy d p0 p1 p2 p3 p4 S = some z → V m_P_copy D (d + 1) S0 (cvT z) 0 [(0, .inr (.inr p0)), (1, .inl p1), (2, .inl p2), (3, .inl p3), (4, .inl p4)] [] S := by
  intro p0 p1 p2 p3 p4 S z h
  unfold e_P_copy at h
  refine x_aload_n 0 d_P_copy_0 rfl rfl ?_
  refine x_iload_n 1 d_P_copy_1 rfl rfl ?_
  refine x_iload_n 2 d_P_copy_2 rfl rfl ?_
  refine x_iload_n 3 d_P_copy_3 rfl rfl ?_
  refine x_callV' (M' := m_P_demandRange) (ax := [.inl p1, .inl p2, .inl p3]) (cv := cvU) (host := none) (st := []) h (fun q h l => s_P_demandRange d p0 p1 p2 p3 S q h l D) hc_0 rfl d_P_copy_4 wm_P_103 wc_P_demandRange rfl (Nat.le_of_ble_eq_true rfl) (fun q1 h => ?_)
  refine x_tryV h (fun v2 h => ?_) (fun e h => ?_)
  · refine x_aload_n 0 d_P_copy_7 rfl rfl ?_
    refine x_iload 4 d_P_copy_8 rfl ?_
    refine x_callV' (M' := m_P_demandText) (ax := [.inl p4]) (cv := cvU) (host := none) (st := []) h (fun q h l => s_P_demandText d p0 p4 q1.2 q h l D) hc_0 rfl d_P_copy_10 wm_P_107 wc_P_demandText rfl (Nat.le_of_ble_eq_true rfl) (fun q3 h => ?_)
    refine x_tryV h (fun v4 h => ?_) (fun e h => ?_)
    · refine x_aload_n 0 d_P_copy_13 rfl rfl ?_
      refine x_iload 4 d_P_copy_14 rfl ?_
      refine x_iload_n 1 d_P_copy_16 rfl rfl ?_
      refine x_callV' (M' := m_P_demandFree) (ax := [.inl p4, .inl p1]) (cv := cvU) (host := none) (st := []) h (fun q h l => s_P_demandFree d p0 p4 p1 q3.2 q h l D) hc_0 rfl d_P_copy_17 wm_P_111 wc_P_demandFree rfl (Nat.le_of_ble_eq_true rfl) (fun q5 h => ?_)
      refine x_tryV h (fun v6 h => ?_) (fun e h => ?_)
      · refine x_aload_n 0 d_P_copy_20 rfl rfl ?_
        refine x_iload_n 1 d_P_copy_21 rfl rfl ?_
        refine x_callV' (M' := m_P_rootOf) (ax := [.inl p1]) (cv := cvR) (host := none) (st := []) h (fun q h l => s_P_rootOf d p0 p1 q5.2 q h l D) hc_0 rfl d_P_copy_22 wm_P_59 wc_P_rootOf rfl (Nat.le_of_ble_eq_true rfl) (fun q7 h => ?_)
        show V _ _ _ _ _ _ _ (va_rf q7.1 :: []) _
        refine x_astore (lv' := [(5, .inr (.inr q7.1)), (0, .inr (.inr p0)), (1, .inl p1), (2, .inl p2), (3, .inl p3), (4, .inl p4)]) d_P_copy_25 (by decide) rfl ?_
        refine x_aload_n 1 d_P_copy_27 rfl rfl ?_
        refine x_iload_n 4 d_P_copy_28 rfl rfl ?_
        refine x_aload 0 d_P_copy_29 rfl ?_
        refine x_iload_n 3 d_P_copy_31 rfl rfl ?_
        refine x_iload_n 4 d_P_copy_32 rfl rfl ?_
        refine x_callS' (M' := m_Y_within) (ax := [.inr (.inr q7.1), .inl p2, .inl p3]) (cv := cvI) (host := (some "PieceTexts")) (st := [.int p3, va_rf p0]) h (fun q h l => s_Y_within d q7.1 p2 p3 q7.2 q h l D) rfl d_P_copy_33 wm_P_118 wc_Y_within rfl (Nat.le_of_ble_eq_true rfl) (fun q8 h => ?_)
        show V _ _ _ _ _ _ _ (.int q8.1 :: .int p3 :: va_rf p0 :: []) _
        refine x_callV' (M' := m_P_demandRoom) (ax := [.inl p3, .inl q8.1]) (cv := cvU) (host := none) (st := []) h (fun q h l => s_P_demandRoom d p0 p3 q8.1 q8.2 q h l D) hc_0 rfl d_P_copy_36 wm_P_75 wc_P_demandRoom rfl (Nat.le_of_ble_eq_true rfl) (fun q9 h => ?_)
        refine x_tryV h (fun v10 h => ?_) (fun e h => ?_)
        · refine x_aload_n 1 d_P_copy_39 rfl rfl ?_
          refine x_iload 5 d_P_copy_40 rfl ?_
          refine x_aload_n 1 d_P_copy_42 rfl rfl ?_
          refine x_getR (host := none) h hc_0 hi_0 (by decide) wf_P_22 d_P_copy_43 (fun v11 h => ?_)
          refine x_aload 0 d_P_copy_46 rfl ?_
          refine x_iload_n 3 d_P_copy_48 rfl rfl ?_
          refine x_iload_n 3 d_P_copy_49 rfl rfl ?_
          refine x_iload_n 4 d_P_copy_50 rfl rfl ?_
          refine x_iadd d_P_copy_51 ?_
          refine x_bipush (v := 40) d_P_copy_52 (by decide) ?_
          refine x_callV' (M' := m_T_twin) (ax := [.inr (.inr q7.1), .inl p2, .inl (p2 + p3), .inl 40]) (cv := cvR) (host := (some "PieceTexts")) (st := [.int p4, va_rf p0]) h (fun q h l => s_T_twin d v11 q7.1 p2 (p2 + p3) 40 q9.2 q h l D) hc_4 rfl d_P_copy_54 wm_P_127 wc_T_twin rfl (Nat.le_of_ble_eq_true rfl) (fun q12 h => ?_)
          show V _ _ _ _ _ _ _ (va_rf q12.1 :: .int p4 :: va_rf p0 :: []) _
          refine x_callV' (M' := m_P_become) (ax := [.inl p4, .inr (.inr q12.1)]) (cv := cvI) (host := none) (st := []) h (fun q h l => s_P_become d p0 p4 q12.1 q12.2 q h l D) hc_0 rfl d_P_copy_57 wm_P_99 wc_P_become rfl (Nat.le_of_ble_eq_true rfl) (fun q13 h => ?_)
          show V _ _ _ _ _ _ _ (.int q13.1 :: []) _
          refine x_pop d_P_copy_60 rfl ?_
          refine x_aload_n 1 d_P_copy_61 rfl rfl ?_
          refine x_iload 5 d_P_copy_62 rfl ?_
          refine x_callV' (M' := m_P_rootOf) (ax := [.inl p4]) (cv := cvR) (host := none) (st := []) h (fun q h l => s_P_rootOf d p0 p4 q13.2 q h l D) hc_0 rfl d_P_copy_64 wm_P_59 wc_P_rootOf rfl (Nat.le_of_ble_eq_true rfl) (fun q14 h => ?_)
          show V _ _ _ _ _ _ _ (va_rf q14.1 :: []) _
          refine x_callS' (M' := m_R_piecesOf) (ax := [.inr (.inr q14.1)]) (cv := cvI) (host := (some "PieceTexts")) (st := []) h (fun q h l => s_R_piecesOf d q14.1 q14.2 q h l D) rfl d_P_copy_67 wm_P_69 wc_R_piecesOf rfl (Nat.le_of_ble_eq_true rfl) (fun q15 h => ?_)
          show V _ _ _ _ _ _ _ (.int q15.1 :: []) _
          cases h
          exact x_iret rfl d_P_copy_70
        · cases h
          rfl
      · cases h
        rfl
    · cases h
      rfl
  · cases h
    rfl
theorem s_P_copy : ∀ (d : Nat) (p0 : Option Nat) (p1 : Int32) (p2 : Int32) (p3 : Int32) (p4 : Int32) (S : xS) (z : (Int32 ⊕ Nat) × xS), f_P_copy d p0 p1 p2 p3 p4 S = some z → ∀ (l : Launch) (D : xD), xMet l m_P_copy D d [.inr (.inr p0), .inl p1, .inl p2, .inl p3, .inl p4] S (cvT z) := by
  intro d
  induction d with
  | zero =>
    intro p0 p1 p2 p3 p4 S z h
    cases h
  | succ d ih =>
    intro p0 p1 p2 p3 p4 S z h l D
    exact x_ofV rfl (by decide) (Nat.le_of_ble_eq_true rfl) (te_P_copy  p0 p1 p2 p3 p4 S z h)
set_option maxRecDepth 100000 in
set_option maxHeartbeats 4000000 in
theorem te_P_tag {D : xD} {d : Nat} {S0 : xS} : ∀ (p0 : Option Nat) (p1 : Int32) (p2 : Int32) (p3 : Int32) (p4 : Int32) (p5 : Int32) (S : xS) (z : (Int32 ⊕ Nat) × xS), e_P_tag d p0 p1 p2 p3 p4 p5 S = some z → V m_P_tag D (d + 1) S0 (cvT z) 0 [(0, .inr (.inr p0)), (1, .inl p1), (2, .inl p2), (3, .inl p3), (4, .inl p4), (5, .inl p5)] [] S := by
  intro p0 p1 p2 p3 p4 p5 S z h
  unfold e_P_tag at h
  refine x_aload_n 0 d_P_tag_0 rfl rfl ?_
  refine x_iload_n 1 d_P_tag_1 rfl rfl ?_
  refine x_iload_n 2 d_P_tag_2 rfl rfl ?_
  refine x_iload_n 3 d_P_tag_3 rfl rfl ?_
  refine x_callV' (M' := m_P_demandRange) (ax := [.inl p1, .inl p2, .inl p3]) (cv := cvU) (host := none) (st := []) h (fun q h l => s_P_demandRange d p0 p1 p2 p3 S q h l D) hc_0 rfl d_P_tag_4 wm_P_103 wc_P_demandRange rfl (Nat.le_of_ble_eq_true rfl) (fun q1 h => ?_)
  refine x_tryV h (fun v2 h => ?_) (fun e h => ?_)
  · refine x_aload_n 0 d_P_tag_7 rfl rfl ?_
    refine x_iload_n 1 d_P_tag_8 rfl rfl ?_
    refine x_callV' (M' := m_P_rootOf) (ax := [.inl p1]) (cv := cvR) (host := none) (st := []) h (fun q h l => s_P_rootOf d p0 p1 q1.2 q h l D) hc_0 rfl d_P_tag_9 wm_P_59 wc_P_rootOf rfl (Nat.le_of_ble_eq_true rfl) (fun q3 h => ?_)
    show V _ _ _ _ _ _ _ (va_rf q3.1 :: []) _
    refine x_astore (lv' := [(6, .inr (.inr q3.1)), (0, .inr (.inr p0)), (1, .inl p1), (2, .inl p2), (3, .inl p3), (4, .inl p4), (5, .inl p5)]) d_P_tag_12 (by decide) rfl ?_
    refine x_aload_n 1 d_P_tag_14 rfl rfl ?_
    refine x_iconst (v := 0) d_P_tag_15 (by decide) ?_
    refine x_aload 0 d_P_tag_16 rfl ?_
    refine x_iload_n 3 d_P_tag_18 rfl rfl ?_
    refine x_iload_n 4 d_P_tag_19 rfl rfl ?_
    refine x_iload 5 d_P_tag_20 rfl ?_
    refine x_iload 6 d_P_tag_22 rfl ?_
    refine x_callS' (M' := m_Y_afterTag) (ax := [.inr (.inr q3.1), .inl p2, .inl p3, .inl p4, .inl p5]) (cv := cvI) (host := (some "PieceTexts")) (st := [.int 0, va_rf p0]) h (fun q h l => s_Y_afterTag d q3.1 p2 p3 p4 p5 q3.2 q h l D) rfl d_P_tag_24 wm_P_131 wc_Y_afterTag rfl (Nat.le_of_ble_eq_true rfl) (fun q4 h => ?_)
    show V _ _ _ _ _ _ _ (.int q4.1 :: .int 0 :: va_rf p0 :: []) _
    refine x_aload 0 d_P_tag_27 rfl ?_
    refine x_callS' (M' := m_R_piecesOf) (ax := [.inr (.inr q3.1)]) (cv := cvI) (host := (some "PieceTexts")) (st := [.int q4.1, .int 0, va_rf p0]) h (fun q h l => s_R_piecesOf d q3.1 q4.2 q h l D) rfl d_P_tag_29 wm_P_69 wc_R_piecesOf rfl (Nat.le_of_ble_eq_true rfl) (fun q5 h => ?_)
    show V _ _ _ _ _ _ _ (.int q5.1 :: .int q4.1 :: .int 0 :: va_rf p0 :: []) _
    refine x_isub d_P_tag_32 ?_
    refine x_callV' (M' := m_P_demandRoom) (ax := [.inl 0, .inl (q4.1 - q5.1)]) (cv := cvU) (host := none) (st := []) h (fun q h l => s_P_demandRoom d p0 0 (q4.1 - q5.1) q5.2 q h l D) hc_0 rfl d_P_tag_33 wm_P_75 wc_P_demandRoom rfl (Nat.le_of_ble_eq_true rfl) (fun q6 h => ?_)
    refine x_tryV h (fun v7 h => ?_) (fun e h => ?_)
    · refine x_aload_n 1 d_P_tag_36 rfl rfl ?_
      refine x_getR (host := none) h hc_0 hi_0 (by decide) wf_P_22 d_P_tag_37 (fun v8 h => ?_)
      refine x_aload 0 d_P_tag_40 rfl ?_
      refine x_iload_n 3 d_P_tag_42 rfl rfl ?_
      refine x_callV' (M' := m_T_part) (ax := [.inr (.inr q3.1), .inl p2]) (cv := cvR) (host := (some "PieceTexts")) (st := []) h (fun q h l => s_T_part d v8 q3.1 p2 q6.2 q h l D) hc_4 rfl d_P_tag_43 wm_P_78 wc_T_part rfl (Nat.le_of_ble_eq_true rfl) (fun q9 h => ?_)
      show V _ _ _ _ _ _ _ (va_rf q9.1 :: []) _
      refine x_astore (lv' := [(7, .inr (.inr q9.1)), (6, .inr (.inr q3.1)), (0, .inr (.inr p0)), (1, .inl p1), (2, .inl p2), (3, .inl p3), (4, .inl p4), (5, .inl p5)]) d_P_tag_46 (by decide) rfl ?_
      refine x_aload_n 2 d_P_tag_48 rfl rfl ?_
      refine x_getR (host := none) h hc_0 hi_0 (by decide) wf_P_22 d_P_tag_49 (fun v10 h => ?_)
      refine x_aload 0 d_P_tag_52 rfl ?_
      refine x_getR (host := (some "PieceTexts")) h hc_1 hi_1 (by decide) wf_P_96 d_P_tag_54 (fun v11 h => ?_)
      refine x_iload_n 5 d_P_tag_57 rfl rfl ?_
      refine x_callV' (M' := m_T_part) (ax := [.inr (.inr v11), .inl p3]) (cv := cvR) (host := (some "PieceTexts")) (st := []) h (fun q h l => s_T_part d v10 v11 p3 q9.2 q h l D) hc_4 rfl d_P_tag_58 wm_P_78 wc_T_part rfl (Nat.le_of_ble_eq_true rfl) (fun q12 h => ?_)
      show V _ _ _ _ _ _ _ (va_rf q12.1 :: []) _
      refine x_astore (lv' := [(8, .inr (.inr q12.1)), (7, .inr (.inr q9.1)), (6, .inr (.inr q3.1)), (0, .inr (.inr p0)), (1, .inl p1), (2, .inl p2), (3, .inl p3), (4, .inl p4), (5, .inl p5)]) d_P_tag_61 (by decide) rfl ?_
      refine x_aload_n 3 d_P_tag_63 rfl rfl ?_
      refine x_getR (host := none) h hc_0 hi_0 (by decide) wf_P_22 d_P_tag_64 (fun v13 h => ?_)
      refine x_aload 0 d_P_tag_67 rfl ?_
      refine x_getR (host := (some "PieceTexts")) h hc_1 hi_1 (by decide) wf_P_86 d_P_tag_69 (fun v14 h => ?_)
      refine x_iload 7 d_P_tag_72 rfl ?_
      refine x_iload 8 d_P_tag_74 rfl ?_
      refine x_bipush (v := 40) d_P_tag_76 (by decide) ?_
      refine x_callV' (M' := m_T_retag) (ax := [.inr (.inr v14), .inl p4, .inl p5, .inl 40]) (cv := cvR) (host := (some "PieceTexts")) (st := []) h (fun q h l => s_T_retag d v13 v14 p4 p5 40 q12.2 q h l D) hc_4 rfl d_P_tag_78 wm_P_134 wc_T_retag rfl (Nat.le_of_ble_eq_true rfl) (fun q15 h => ?_)
      show V _ _ _ _ _ _ _ (va_rf q15.1 :: []) _
      refine x_astore (lv' := [(9, .inr (.inr q15.1)), (8, .inr (.inr q12.1)), (7, .inr (.inr q9.1)), (6, .inr (.inr q3.1)), (0, .inr (.inr p0)), (1, .inl p1), (2, .inl p2), (3, .inl p3), (4, .inl p4), (5, .inl p5)]) d_P_tag_81 (by decide) rfl ?_
      refine x_aload_n 4 d_P_tag_83 rfl rfl ?_
      refine x_iload_n 5 d_P_tag_84 rfl rfl ?_
      refine x_aload_n 4 d_P_tag_85 rfl rfl ?_
      refine x_getR (host := none) h hc_0 hi_0 (by decide) wf_P_22 d_P_tag_86 (fun v16 h => ?_)
      refine x_aload_n 4 d_P_tag_89 rfl rfl ?_
      refine x_getR (host := none) h hc_0 hi_0 (by decide) wf_P_22 d_P_tag_90 (fun v17 h => ?_)
      refine x_aload 2 d_P_tag_93 rfl ?_
      refine x_getR (host := (some "PieceTexts")) h hc_1 hi_1 (by decide) wf_P_86 d_P_tag_95 (fun v18 h => ?_)
      refine x_aload 0 d_P_tag_98 rfl ?_
      refine x_callV' (M' := m_T_meet) (ax := [.inr (.inr v18), .inr (.inr q15.1)]) (cv := cvR) (host := (some "PieceTexts")) (st := [va_rf v16, .int p1, va_rf p0]) h (fun q h l => s_T_meet d v17 v18 q15.1 q15.2 q h l D) hc_4 rfl d_P_tag_100 wm_P_92 wc_T_meet rfl (Nat.le_of_ble_eq_true rfl) (fun q19 h => ?_)
      show V _ _ _ _ _ _ _ (va_rf q19.1 :: va_rf v16 :: .int p1 :: va_rf p0 :: []) _
      refine x_aload 1 d_P_tag_103 rfl ?_
      refine x_getR (host := (some "PieceTexts")) h hc_1 hi_1 (by decide) wf_P_96 d_P_tag_105 (fun v20 h => ?_)
      refine x_callV' (M' := m_T_meet) (ax := [.inr (.inr q19.1), .inr (.inr v20)]) (cv := cvR) (host := (some "PieceTexts")) (st := [.int p1, va_rf p0]) h (fun q h l => s_T_meet d v16 q19.1 v20 q19.2 q h l D) hc_4 rfl d_P_tag_108 wm_P_92 wc_T_meet rfl (Nat.le_of_ble_eq_true rfl) (fun q21 h => ?_)
      show V _ _ _ _ _ _ _ (va_rf q21.1 :: .int p1 :: va_rf p0 :: []) _
      refine x_callV' (M' := m_P_become) (ax := [.inl p1, .inr (.inr q21.1)]) (cv := cvI) (host := none) (st := []) h (fun q h l => s_P_become d p0 p1 q21.1 q21.2 q h l D) hc_0 rfl d_P_tag_111 wm_P_99 wc_P_become rfl (Nat.le_of_ble_eq_true rfl) (fun q22 h => ?_)
      show V _ _ _ _ _ _ _ (.int q22.1 :: []) _
      refine x_pop d_P_tag_114 rfl ?_
      refine x_aload_n 4 d_P_tag_115 rfl rfl ?_
      refine x_iload_n 5 d_P_tag_116 rfl rfl ?_
      refine x_callV' (M' := m_P_rootOf) (ax := [.inl p1]) (cv := cvR) (host := none) (st := []) h (fun q h l => s_P_rootOf d p0 p1 q22.2 q h l D) hc_0 rfl d_P_tag_117 wm_P_59 wc_P_rootOf rfl (Nat.le_of_ble_eq_true rfl) (fun q23 h => ?_)
      show V _ _ _ _ _ _ _ (va_rf q23.1 :: []) _
      refine x_callS' (M' := m_R_piecesOf) (ax := [.inr (.inr q23.1)]) (cv := cvI) (host := (some "PieceTexts")) (st := []) h (fun q h l => s_R_piecesOf d q23.1 q23.2 q h l D) rfl d_P_tag_120 wm_P_69 wc_R_piecesOf rfl (Nat.le_of_ble_eq_true rfl) (fun q24 h => ?_)
      show V _ _ _ _ _ _ _ (.int q24.1 :: []) _
      cases h
      exact x_iret rfl d_P_tag_123
    · cases h
      rfl
  · cases h
    rfl
theorem s_P_tag : ∀ (d : Nat) (p0 : Option Nat) (p1 : Int32) (p2 : Int32) (p3 : Int32) (p4 : Int32) (p5 : Int32) (S : xS) (z : (Int32 ⊕ Nat) × xS), f_P_tag d p0 p1 p2 p3 p4 p5 S = some z → ∀ (l : Launch) (D : xD), xMet l m_P_tag D d [.inr (.inr p0), .inl p1, .inl p2, .inl p3, .inl p4, .inl p5] S (cvT z) := by
  intro d
  induction d with
  | zero =>
    intro p0 p1 p2 p3 p4 p5 S z h
    cases h
  | succ d ih =>
    intro p0 p1 p2 p3 p4 p5 S z h l D
    exact x_ofV rfl (by decide) (Nat.le_of_ble_eq_true rfl) (te_P_tag  p0 p1 p2 p3 p4 p5 S z h)
set_option maxRecDepth 100000 in
set_option maxHeartbeats 4000000 in
theorem te_P_wipe {D : xD} {d : Nat} {S0 : xS} : ∀ (p0 : Option Nat) (p1 : Int32) (S : xS) (z : (Int32 ⊕ Nat) × xS), e_P_wipe d p0 p1 S = some z → V m_P_wipe D (d + 1) S0 (cvT z) 0 [(0, .inr (.inr p0)), (1, .inl p1)] [] S := by
  intro p0 p1 S z h
  unfold e_P_wipe at h
  refine x_aload_n 0 d_P_wipe_0 rfl rfl ?_
  refine x_iload_n 1 d_P_wipe_1 rfl rfl ?_
  refine x_callV' (M' := m_P_demandText) (ax := [.inl p1]) (cv := cvU) (host := none) (st := []) h (fun q h l => s_P_demandText d p0 p1 S q h l D) hc_0 rfl d_P_wipe_2 wm_P_107 wc_P_demandText rfl (Nat.le_of_ble_eq_true rfl) (fun q1 h => ?_)
  refine x_tryV h (fun v2 h => ?_) (fun e h => ?_)
  · refine x_aload_n 0 d_P_wipe_5 rfl rfl ?_
    refine x_iload_n 1 d_P_wipe_6 rfl rfl ?_
    refine x_callV' (M' := m_P_rootOf) (ax := [.inl p1]) (cv := cvR) (host := none) (st := []) h (fun q h l => s_P_rootOf d p0 p1 q1.2 q h l D) hc_0 rfl d_P_wipe_7 wm_P_59 wc_P_rootOf rfl (Nat.le_of_ble_eq_true rfl) (fun q3 h => ?_)
    show V _ _ _ _ _ _ _ (va_rf q3.1 :: []) _
    refine x_astore_n (lv' := [(2, .inr (.inr q3.1)), (0, .inr (.inr p0)), (1, .inl p1)]) d_P_wipe_10 rfl (by decide) rfl ?_
    refine x_aload_n 0 d_P_wipe_11 rfl rfl ?_
    refine x_callS' (M' := m_R_charactersOf) (ax := [.inr (.inr q3.1)]) (cv := cvI) (host := (some "PieceTexts")) (st := []) h (fun q h l => s_R_charactersOf d q3.1 q3.2 q h l D) rfl d_P_wipe_12 wm_P_137 wc_R_charactersOf rfl (Nat.le_of_ble_eq_true rfl) (fun q4 h => ?_)
    show V _ _ _ _ _ _ _ (.int q4.1 :: []) _
    refine x_istore_n (lv' := [(3, .inl q4.1), (2, .inr (.inr q3.1)), (0, .inr (.inr p0)), (1, .inl p1)]) d_P_wipe_15 rfl (by decide) rfl ?_
    refine x_aload_n 2 d_P_wipe_16 rfl rfl ?_
    refine x_iload_n 3 d_P_wipe_17 rfl rfl ?_
    refine x_null d_P_wipe_18 ?_
    refine x_callV' (M' := m_P_become) (ax := [.inl p1, .inr (.inr none)]) (cv := cvI) (host := none) (st := []) h (fun q h l => s_P_become d p0 p1 none q4.2 q h l D) hc_0 rfl d_P_wipe_19 wm_P_99 wc_P_become rfl (Nat.le_of_ble_eq_true rfl) (fun q5 h => ?_)
    show V _ _ _ _ _ _ _ (.int q5.1 :: []) _
    refine x_pop d_P_wipe_22 rfl ?_
    refine x_aload_n 2 d_P_wipe_23 rfl rfl ?_
    refine x_getR (host := none) h hc_0 hi_0 (by decide) wf_P_22 d_P_wipe_24 (fun v6 h => ?_)
    refine x_aload_n 1 d_P_wipe_27 rfl rfl ?_
    refine x_bipush (v := 40) d_P_wipe_28 (by decide) ?_
    refine x_callV' (M' := m_T_giveBackAll) (ax := [.inr (.inr q3.1), .inl 40]) (cv := cvV) (host := (some "PieceTexts")) (st := []) h (fun q h l => s_T_giveBackAll d v6 q3.1 40 q5.2 q h l D) hc_4 rfl d_P_wipe_30 wm_P_140 wc_T_giveBackAll rfl (Nat.le_of_ble_eq_true rfl) (fun q7 h => ?_)
    show V _ _ _ _ _ _ _ ([]) _
    refine x_iload_n 0 d_P_wipe_33 rfl rfl ?_
    cases h
    exact x_iret rfl d_P_wipe_34
  · cases h
    rfl
theorem s_P_wipe : ∀ (d : Nat) (p0 : Option Nat) (p1 : Int32) (S : xS) (z : (Int32 ⊕ Nat) × xS), f_P_wipe d p0 p1 S = some z → ∀ (l : Launch) (D : xD), xMet l m_P_wipe D d [.inr (.inr p0), .inl p1] S (cvT z) := by
  intro d
  induction d with
  | zero =>
    intro p0 p1 S z h
    cases h
  | succ d ih =>
    intro p0 p1 S z h l D
    exact x_ofV rfl (by decide) (Nat.le_of_ble_eq_true rfl) (te_P_wipe  p0 p1 S z h)
set_option maxRecDepth 100000 in
set_option maxHeartbeats 4000000 in
theorem tb_P_length_20 {D : xD} {d : Nat} {S0 : xS} : ∀ (y0 : Int32) (S : xS) (z : Int32 × xS), b_P_length_20 d y0 S = some z → V m_P_length D (d + 1) S0 (cvI z) 20 [] [.int y0] S := by
  intro y0 S z h
  unfold b_P_length_20 at h
  cases h
  exact x_iret rfl d_P_length_20
set_option maxRecDepth 100000 in
set_option maxHeartbeats 4000000 in
theorem te_P_length {D : xD} {d : Nat} {S0 : xS} : ∀ (p0 : Option Nat) (p1 : Int32) (S : xS) (z : Int32 × xS), e_P_length d p0 p1 S = some z → V m_P_length D (d + 1) S0 (cvI z) 0 [(0, .inr (.inr p0)), (1, .inl p1)] [] S := by
  intro p0 p1 S z h
  unfold e_P_length at h
  refine x_aload_n 0 d_P_length_0 rfl rfl ?_
  refine x_iload_n 1 d_P_length_1 rfl rfl ?_
  refine x_callV' (M' := m_P_isText) (ax := [.inl p1]) (cv := cvI) (host := none) (st := []) h (fun q h l => s_P_isText d p0 p1 S q h l D) hc_0 rfl d_P_length_2 wm_P_144 wc_P_isText rfl (Nat.le_of_ble_eq_true rfl) (fun q1 h => ?_)
  show V _ _ _ _ _ _ _ (.int q1.1 :: []) _
  refine x_if_eq (tgt := 19) d_P_length_5 (by decide) h (fun h => ?_) (fun h => ?_)
  · refine x_iconst (v := (-1)) d_P_length_19 (by decide) ?_
    refine x_ls [] rfl ?_
    exact tb_P_length_20 ((-1)) q1.2 _ h
  · refine x_aload_n 0 d_P_length_8 rfl rfl ?_
    refine x_iload_n 1 d_P_length_9 rfl rfl ?_
    refine x_callV' (M' := m_P_rootOf) (ax := [.inl p1]) (cv := cvR) (host := none) (st := []) h (fun q h l => s_P_rootOf d p0 p1 q1.2 q h l D) hc_0 rfl d_P_length_10 wm_P_59 wc_P_rootOf rfl (Nat.le_of_ble_eq_true rfl) (fun q2 h => ?_)
    show V _ _ _ _ _ _ _ (va_rf q2.1 :: []) _
    refine x_callS' (M' := m_R_charactersOf) (ax := [.inr (.inr q2.1)]) (cv := cvI) (host := (some "PieceTexts")) (st := []) h (fun q h l => s_R_charactersOf d q2.1 q2.2 q h l D) rfl d_P_length_13 wm_P_137 wc_R_charactersOf rfl (Nat.le_of_ble_eq_true rfl) (fun q3 h => ?_)
    show V _ _ _ _ _ _ _ (.int q3.1 :: []) _
    refine x_goto (tgt := 20) d_P_length_16 (by decide) ?_
    refine x_ls [] rfl ?_
    exact tb_P_length_20 q3.1 q3.2 _ h
theorem s_P_length : ∀ (d : Nat) (p0 : Option Nat) (p1 : Int32) (S : xS) (z : Int32 × xS), f_P_length d p0 p1 S = some z → ∀ (l : Launch) (D : xD), xMet l m_P_length D d [.inr (.inr p0), .inl p1] S (cvI z) := by
  intro d
  induction d with
  | zero =>
    intro p0 p1 S z h
    cases h
  | succ d ih =>
    intro p0 p1 S z h l D
    exact x_ofV rfl (by decide) (Nat.le_of_ble_eq_true rfl) (te_P_length  p0 p1 S z h)
set_option maxRecDepth 100000 in
set_option maxHeartbeats 4000000 in
theorem tb_P_byteAt_35 {D : xD} {d : Nat} {S0 : xS} : ∀ (y0 : Int32) (S : xS) (z : Int32 × xS), b_P_byteAt_35 d y0 S = some z → V m_P_byteAt D (d + 1) S0 (cvI z) 35 [] [.int y0] S := by
  intro y0 S z h
  unfold b_P_byteAt_35 at h
  cases h
  exact x_iret rfl d_P_byteAt_35
set_option maxRecDepth 100000 in
set_option maxHeartbeats 4000000 in
theorem tb_P_byteAt_21 {D : xD} {d : Nat} {S0 : xS} : ∀  (S : xS) (z : Int32 × xS), b_P_byteAt_21 d  S = some z → V m_P_byteAt D (d + 1) S0 (cvI z) 21 [] [] S := by
  intro  S z h
  unfold b_P_byteAt_21 at h
  refine x_iconst (v := 0) d_P_byteAt_21 (by decide) ?_
  refine x_goto (tgt := 35) d_P_byteAt_22 (by decide) ?_
  refine x_ls [] rfl ?_
  exact tb_P_byteAt_35 0 S _ h
set_option maxRecDepth 100000 in
set_option maxHeartbeats 4000000 in
theorem te_P_byteAt {D : xD} {d : Nat} {S0 : xS} : ∀ (p0 : Option Nat) (p1 : Int32) (S : xS) (z : Int32 × xS), e_P_byteAt d p0 p1 S = some z → V m_P_byteAt D (d + 1) S0 (cvI z) 0 [(0, .inr (.inr p0)), (1, .inl p1)] [] S := by
  intro p0 p1 S z h
  unfold e_P_byteAt at h
  refine x_iload_n 1 d_P_byteAt_0 rfl rfl ?_
  refine x_if_lt (tgt := 21) d_P_byteAt_1 (by decide) h (fun h => ?_) (fun h => ?_)
  · refine x_ls [] rfl ?_
    exact tb_P_byteAt_21 S _ h
  · refine x_iload_n 1 d_P_byteAt_4 rfl rfl ?_
    refine x_aload_n 0 d_P_byteAt_5 rfl rfl ?_
    refine x_getI (host := none) h hc_0 hi_0 (by decide) wf_P_37 d_P_byteAt_6 (fun v1 h => ?_)
    refine x_icmp_ge (tgt := 21) d_P_byteAt_9 (by decide) h (fun h => ?_) (fun h => ?_)
    · refine x_ls [] rfl ?_
      exact tb_P_byteAt_21 S _ h
    · refine x_iload_n 1 d_P_byteAt_12 rfl rfl ?_
      refine x_aload_n 0 d_P_byteAt_13 rfl rfl ?_
      refine x_getR (host := none) h hc_0 hi_0 (by decide) wf_P_9 d_P_byteAt_14 (fun v2 h => ?_)
      refine x_len h ha_0 d_P_byteAt_17 (fun v3 h => ?_)
      refine x_icmp_lt (tgt := 25) d_P_byteAt_18 (by decide) h (fun h => ?_) (fun h => ?_)
      · refine x_aload_n 0 d_P_byteAt_25 rfl rfl ?_
        refine x_getR (host := none) h hc_0 hi_0 (by decide) wf_P_9 d_P_byteAt_26 (fun v4 h => ?_)
        refine x_iload_n 1 d_P_byteAt_29 rfl rfl ?_
        refine x_bald h ha_0 d_P_byteAt_30 (fun v5 h => ?_)
        refine x_sipush (v := 255) d_P_byteAt_31 (by decide) ?_
        refine x_iand d_P_byteAt_34 ?_
        refine x_ls [] rfl ?_
        exact tb_P_byteAt_35 (v5 &&& 255) S _ h
      · refine x_ls [] rfl ?_
        exact tb_P_byteAt_21 S _ h
theorem s_P_byteAt : ∀ (d : Nat) (p0 : Option Nat) (p1 : Int32) (S : xS) (z : Int32 × xS), f_P_byteAt d p0 p1 S = some z → ∀ (l : Launch) (D : xD), xMet l m_P_byteAt D d [.inr (.inr p0), .inl p1] S (cvI z) := by
  intro d
  induction d with
  | zero =>
    intro p0 p1 S z h
    cases h
  | succ d ih =>
    intro p0 p1 S z h l D
    exact x_ofV rfl (by decide) (Nat.le_of_ble_eq_true rfl) (te_P_byteAt  p0 p1 S z h)
set_option maxRecDepth 100000 in
set_option maxHeartbeats 4000000 in
theorem tb_P_look_25 {D : xD} {d : Nat} {S0 : xS} : ∀  (S : xS) (z : (Int32 ⊕ Nat) × xS), b_P_look_25 d  S = some z → V m_P_look D (d + 1) S0 (cvT z) 25 [] [] S := by
  intro  S z h
  unfold b_P_look_25 at h
  exact x_throwI h rfl rfl (by decide) wk_P_54 wi_IndexOutOfBoundsException wt_P_148 wj_P_58 d_P_look_25 d_P_look_28 d_P_look_29 d_P_look_31 d_P_look_34 (Nat.le_of_ble_eq_true rfl)
set_option maxRecDepth 100000 in
set_option maxHeartbeats 4000000 in
theorem te_P_look {D : xD} {d : Nat} {S0 : xS} : ∀ (p0 : Option Nat) (p1 : Int32) (p2 : Int32) (p3 : Int32) (S : xS) (z : (Int32 ⊕ Nat) × xS), e_P_look d p0 p1 p2 p3 S = some z → V m_P_look D (d + 1) S0 (cvT z) 0 [(0, .inr (.inr p0)), (1, .inl p1), (2, .inl p2), (3, .inl p3)] [] S := by
  intro p0 p1 p2 p3 S z h
  unfold e_P_look at h
  refine x_aload_n 0 d_P_look_0 rfl rfl ?_
  refine x_iload_n 1 d_P_look_1 rfl rfl ?_
  refine x_callV' (M' := m_P_demandText) (ax := [.inl p1]) (cv := cvU) (host := none) (st := []) h (fun q h l => s_P_demandText d p0 p1 S q h l D) hc_0 rfl d_P_look_2 wm_P_107 wc_P_demandText rfl (Nat.le_of_ble_eq_true rfl) (fun q1 h => ?_)
  refine x_tryV h (fun v2 h => ?_) (fun e h => ?_)
  · refine x_aload_n 0 d_P_look_5 rfl rfl ?_
    refine x_iload_n 1 d_P_look_6 rfl rfl ?_
    refine x_callV' (M' := m_P_rootOf) (ax := [.inl p1]) (cv := cvR) (host := none) (st := []) h (fun q h l => s_P_rootOf d p0 p1 q1.2 q h l D) hc_0 rfl d_P_look_7 wm_P_59 wc_P_rootOf rfl (Nat.le_of_ble_eq_true rfl) (fun q3 h => ?_)
    show V _ _ _ _ _ _ _ (va_rf q3.1 :: []) _
    refine x_astore (lv' := [(4, .inr (.inr q3.1)), (0, .inr (.inr p0)), (1, .inl p1), (2, .inl p2), (3, .inl p3)]) d_P_look_10 (by decide) rfl ?_
    refine x_iload_n 3 d_P_look_12 rfl rfl ?_
    refine x_if_lt (tgt := 25) d_P_look_13 (by decide) h (fun h => ?_) (fun h => ?_)
    · refine x_ls [] rfl ?_
      exact tb_P_look_25 q3.2 _ h
    · refine x_iload_n 3 d_P_look_16 rfl rfl ?_
      refine x_aload 0 d_P_look_17 rfl ?_
      refine x_callS' (M' := m_R_charactersOf) (ax := [.inr (.inr q3.1)]) (cv := cvI) (host := (some "PieceTexts")) (st := [.int p2]) h (fun q h l => s_R_charactersOf d q3.1 q3.2 q h l D) rfl d_P_look_19 wm_P_137 wc_R_charactersOf rfl (Nat.le_of_ble_eq_true rfl) (fun q4 h => ?_)
      show V _ _ _ _ _ _ _ (.int q4.1 :: .int p2 :: []) _
      refine x_icmp_lt (tgt := 35) d_P_look_22 (by decide) h (fun h => ?_) (fun h => ?_)
      · refine x_iload_n 4 d_P_look_35 rfl rfl ?_
        by_cases e0 : p3 = 0
        · rw [if_pos e0] at h
          refine x_tabIn (k := 0) (tgt := 68) d_P_look_36 e0 (by decide) (by decide) rfl (by decide) ?_
          refine x_aload_n 1 d_P_look_68 rfl rfl ?_
          refine x_aload 0 d_P_look_69 rfl ?_
          refine x_iload_n 3 d_P_look_71 rfl rfl ?_
          refine x_callS' (M' := m_R_sourceAt) (ax := [.inr (.inr q3.1), .inl p2]) (cv := cvI) (host := (some "PieceTexts")) (st := [va_rf p0]) h (fun q h l => s_R_sourceAt d q3.1 p2 q4.2 q h l D) rfl d_P_look_72 wm_P_150 wc_R_sourceAt rfl (Nat.le_of_ble_eq_true rfl) (fun q5 h => ?_)
          show V _ _ _ _ _ _ _ (.int q5.1 :: va_rf p0 :: []) _
          refine x_callV' (M' := m_P_byteAt) (ax := [.inl q5.1]) (cv := cvI) (host := none) (st := []) h (fun q h l => s_P_byteAt d p0 q5.1 q5.2 q h l D) hc_0 rfl d_P_look_75 wm_P_154 wc_P_byteAt rfl (Nat.le_of_ble_eq_true rfl) (fun q6 h => ?_)
          show V _ _ _ _ _ _ _ (.int q6.1 :: []) _
          cases h
          exact x_iret rfl d_P_look_78
        rw [if_neg e0] at h
        by_cases e1 : p3 = 1
        · rw [if_pos e1] at h
          refine x_tabIn (k := 1) (tgt := 79) d_P_look_36 e1 (by decide) (by decide) rfl (by decide) ?_
          refine x_aload 0 d_P_look_79 rfl ?_
          refine x_iload_n 3 d_P_look_81 rfl rfl ?_
          refine x_callS' (M' := m_R_sourceAt) (ax := [.inr (.inr q3.1), .inl p2]) (cv := cvI) (host := (some "PieceTexts")) (st := []) h (fun q h l => s_R_sourceAt d q3.1 p2 q4.2 q h l D) rfl d_P_look_82 wm_P_150 wc_R_sourceAt rfl (Nat.le_of_ble_eq_true rfl) (fun q7 h => ?_)
          show V _ _ _ _ _ _ _ (.int q7.1 :: []) _
          cases h
          exact x_iret rfl d_P_look_85
        rw [if_neg e1] at h
        by_cases e2 : p3 = 2
        · rw [if_pos e2] at h
          refine x_tabIn (k := 2) (tgt := 86) d_P_look_36 e2 (by decide) (by decide) rfl (by decide) ?_
          refine x_aload 0 d_P_look_86 rfl ?_
          refine x_iload_n 3 d_P_look_88 rfl rfl ?_
          refine x_callS' (M' := m_R_tagAt) (ax := [.inr (.inr q3.1), .inl p2]) (cv := cvI) (host := (some "PieceTexts")) (st := []) h (fun q h l => s_R_tagAt d q3.1 p2 q4.2 q h l D) rfl d_P_look_89 wm_P_158 wc_R_tagAt rfl (Nat.le_of_ble_eq_true rfl) (fun q8 h => ?_)
          show V _ _ _ _ _ _ _ (.int q8.1 :: []) _
          cases h
          exact x_iret rfl d_P_look_92
        rw [if_neg e2] at h
        by_cases e3 : p3 = 3
        · rw [if_pos e3] at h
          refine x_tabIn (k := 3) (tgt := 93) d_P_look_36 e3 (by decide) (by decide) rfl (by decide) ?_
          refine x_aload 0 d_P_look_93 rfl ?_
          refine x_iload_n 3 d_P_look_95 rfl rfl ?_
          refine x_callS' (M' := m_R_orderAt) (ax := [.inr (.inr q3.1), .inl p2]) (cv := cvI) (host := (some "PieceTexts")) (st := []) h (fun q h l => s_R_orderAt d q3.1 p2 q4.2 q h l D) rfl d_P_look_96 wm_P_161 wc_R_orderAt rfl (Nat.le_of_ble_eq_true rfl) (fun q9 h => ?_)
          show V _ _ _ _ _ _ _ (.int q9.1 :: []) _
          cases h
          exact x_iret rfl d_P_look_99
        rw [if_neg e3] at h
        refine x_tabOut (tgt := 100) d_P_look_36 (xtab_4 e0 e1 e2 e3) (by decide) ?_
        exact x_throwI h rfl rfl (by decide) wk_P_30 wi_IllegalArgumentException wt_P_164 wj_P_34 d_P_look_100 d_P_look_103 d_P_look_104 d_P_look_106 d_P_look_109 (Nat.le_of_ble_eq_true rfl)
      · refine x_ls [] rfl ?_
        exact tb_P_look_25 q4.2 _ h
  · cases h
    rfl
theorem s_P_look : ∀ (d : Nat) (p0 : Option Nat) (p1 : Int32) (p2 : Int32) (p3 : Int32) (S : xS) (z : (Int32 ⊕ Nat) × xS), f_P_look d p0 p1 p2 p3 S = some z → ∀ (l : Launch) (D : xD), xMet l m_P_look D d [.inr (.inr p0), .inl p1, .inl p2, .inl p3] S (cvT z) := by
  intro d
  induction d with
  | zero =>
    intro p0 p1 p2 p3 S z h
    cases h
  | succ d ih =>
    intro p0 p1 p2 p3 S z h l D
    exact x_ofV rfl (by decide) (Nat.le_of_ble_eq_true rfl) (te_P_look  p0 p1 p2 p3 S z h)
set_option maxRecDepth 100000 in
set_option maxHeartbeats 4000000 in
theorem te_P_piece {D : xD} {d : Nat} {S0 : xS} : ∀ (p0 : Option Nat) (p1 : Int32) (p2 : Int32) (p3 : Int32) (S : xS) (z : (Int32 ⊕ Nat) × xS), e_P_piece d p0 p1 p2 p3 S = some z → V m_P_piece D (d + 1) S0 (cvT z) 0 [(0, .inr (.inr p0)), (1, .inl p1), (2, .inl p2), (3, .inl p3)] [] S := by
  intro p0 p1 p2 p3 S z h
  unfold e_P_piece at h
  refine x_aload_n 0 d_P_piece_0 rfl rfl ?_
  refine x_iload_n 1 d_P_piece_1 rfl rfl ?_
  refine x_callV' (M' := m_P_demandText) (ax := [.inl p1]) (cv := cvU) (host := none) (st := []) h (fun q h l => s_P_demandText d p0 p1 S q h l D) hc_0 rfl d_P_piece_2 wm_P_107 wc_P_demandText rfl (Nat.le_of_ble_eq_true rfl) (fun q1 h => ?_)
  refine x_tryV h (fun v2 h => ?_) (fun e h => ?_)
  · refine x_aload_n 0 d_P_piece_5 rfl rfl ?_
    refine x_iload_n 1 d_P_piece_6 rfl rfl ?_
    refine x_callV' (M' := m_P_rootOf) (ax := [.inl p1]) (cv := cvR) (host := none) (st := []) h (fun q h l => s_P_rootOf d p0 p1 q1.2 q h l D) hc_0 rfl d_P_piece_7 wm_P_59 wc_P_rootOf rfl (Nat.le_of_ble_eq_true rfl) (fun q3 h => ?_)
    show V _ _ _ _ _ _ _ (va_rf q3.1 :: []) _
    refine x_astore (lv' := [(4, .inr (.inr q3.1)), (0, .inr (.inr p0)), (1, .inl p1), (2, .inl p2), (3, .inl p3)]) d_P_piece_10 (by decide) rfl ?_
    refine x_aload 0 d_P_piece_12 rfl ?_
    refine x_iload_n 3 d_P_piece_14 rfl rfl ?_
    refine x_callS' (M' := m_R_numbered) (ax := [.inr (.inr q3.1), .inl p2]) (cv := cvR) (host := (some "PieceTexts")) (st := []) h (fun q h l => s_R_numbered d q3.1 p2 q3.2 q h l D) rfl d_P_piece_15 wm_P_166 wc_R_numbered rfl (Nat.le_of_ble_eq_true rfl) (fun q4 h => ?_)
    show V _ _ _ _ _ _ _ (va_rf q4.1 :: []) _
    refine x_astore (lv' := [(5, .inr (.inr q4.1)), (4, .inr (.inr q3.1)), (0, .inr (.inr p0)), (1, .inl p1), (2, .inl p2), (3, .inl p3)]) d_P_piece_18 (by decide) rfl ?_
    refine x_aload 0 d_P_piece_20 rfl ?_
    refine x_ifnonnull (tgt := 35) d_P_piece_22 (by decide) h (fun _ _ h => ?_) (fun _ h => ?_)
    · refine x_iload_n 5 d_P_piece_35 rfl rfl ?_
      by_cases e0 : p3 = 0
      · rw [if_pos e0] at h
        refine x_tabIn (k := 0) (tgt := 68) d_P_piece_36 e0 (by decide) (by decide) rfl (by decide) ?_
        refine x_aload 1 d_P_piece_68 rfl ?_
        refine x_iload_n 4 d_P_piece_70 rfl rfl ?_
        refine x_callS' (M' := m_R_startOf) (ax := [.inr (.inr q3.1), .inl p2]) (cv := cvI) (host := (some "PieceTexts")) (st := []) h (fun q h l => s_R_startOf d q3.1 p2 q4.2 q h l D) rfl d_P_piece_71 wm_P_172 wc_R_startOf rfl (Nat.le_of_ble_eq_true rfl) (fun q6 h => ?_)
        show V _ _ _ _ _ _ _ (.int q6.1 :: []) _
        cases h
        exact x_iret rfl d_P_piece_74
      rw [if_neg e0] at h
      by_cases e1 : p3 = 1
      · rw [if_pos e1] at h
        refine x_tabIn (k := 1) (tgt := 75) d_P_piece_36 e1 (by decide) (by decide) rfl (by decide) ?_
        refine x_aload 0 d_P_piece_75 rfl ?_
        refine x_getI (host := (some "PieceTexts")) h hc_2 hi_2 (by decide) wf_P_175 d_P_piece_77 (fun v7 h => ?_)
        cases h
        exact x_iret rfl d_P_piece_80
      rw [if_neg e1] at h
      by_cases e2 : p3 = 2
      · rw [if_pos e2] at h
        refine x_tabIn (k := 2) (tgt := 81) d_P_piece_36 e2 (by decide) (by decide) rfl (by decide) ?_
        refine x_aload 0 d_P_piece_81 rfl ?_
        refine x_getI (host := (some "PieceTexts")) h hc_2 hi_2 (by decide) wf_P_178 d_P_piece_83 (fun v8 h => ?_)
        cases h
        exact x_iret rfl d_P_piece_86
      rw [if_neg e2] at h
      by_cases e3 : p3 = 3
      · rw [if_pos e3] at h
        refine x_tabIn (k := 3) (tgt := 87) d_P_piece_36 e3 (by decide) (by decide) rfl (by decide) ?_
        refine x_aload 0 d_P_piece_87 rfl ?_
        refine x_getI (host := (some "PieceTexts")) h hc_2 hi_2 (by decide) wf_P_181 d_P_piece_89 (fun v9 h => ?_)
        cases h
        exact x_iret rfl d_P_piece_92
      rw [if_neg e3] at h
      refine x_tabOut (tgt := 93) d_P_piece_36 (xtab_4 e0 e1 e2 e3) (by decide) ?_
      exact x_throwI h rfl rfl (by decide) wk_P_30 wi_IllegalArgumentException wt_P_184 wj_P_34 d_P_piece_93 d_P_piece_96 d_P_piece_97 d_P_piece_99 d_P_piece_102 (Nat.le_of_ble_eq_true rfl)
    · exact x_throwI h rfl rfl (by decide) wk_P_54 wi_IndexOutOfBoundsException wt_P_170 wj_P_58 d_P_piece_25 d_P_piece_28 d_P_piece_29 d_P_piece_31 d_P_piece_34 (Nat.le_of_ble_eq_true rfl)
  · cases h
    rfl
theorem s_P_piece : ∀ (d : Nat) (p0 : Option Nat) (p1 : Int32) (p2 : Int32) (p3 : Int32) (S : xS) (z : (Int32 ⊕ Nat) × xS), f_P_piece d p0 p1 p2 p3 S = some z → ∀ (l : Launch) (D : xD), xMet l m_P_piece D d [.inr (.inr p0), .inl p1, .inl p2, .inl p3] S (cvT z) := by
  intro d
  induction d with
  | zero =>
    intro p0 p1 p2 p3 S z h
    cases h
  | succ d ih =>
    intro p0 p1 p2 p3 S z h l D
    exact x_ofV rfl (by decide) (Nat.le_of_ble_eq_true rfl) (te_P_piece  p0 p1 p2 p3 S z h)
set_option maxRecDepth 100000 in
set_option maxHeartbeats 4000000 in
theorem tb_P_find_35 {D : xD} {d : Nat} {S0 : xS} {k35 : Option Nat → Int32 → Int32 → Option Nat → Int32 → xS → Option ((Int32 ⊕ Nat) × xS)} (hk35 : ∀ (x0 : Option Nat) (x3 : Int32) (x5 : Int32) (x6 : Option Nat) (x7 : Int32)  (S : xS) (z : (Int32 ⊕ Nat) × xS), k35 x0 x3 x5 x6 x7 S = some z → V m_P_find D (d + 1) S0 (cvT z) 35 [(0, .inr (.inr x0)), (3, .inl x3), (5, .inl x5), (6, .inr (.inr x6)), (7, .inl x7)] [] S) : ∀ (x0 : Option Nat) (x3 : Int32) (x5 : Int32) (x6 : Option Nat) (x7 : Int32) (S : xS) (z : (Int32 ⊕ Nat) × xS), b_P_find_35 d k35 x0 x3 x5 x6 x7 S = some z → V m_P_find D (d + 1) S0 (cvT z) 35 [(0, .inr (.inr x0)), (3, .inl x3), (5, .inl x5), (6, .inr (.inr x6)), (7, .inl x7)] [] S := by
  intro x0 x3 x5 x6 x7 S z h
  unfold b_P_find_35 at h
  refine x_iload 4 d_P_find_35 rfl ?_
  refine x_iload 2 d_P_find_37 rfl ?_
  refine x_icmp_ge (tgt := 64) d_P_find_39 (by decide) h (fun h => ?_) (fun h => ?_)
  · refine x_iconst (v := (-1)) d_P_find_64 (by decide) ?_
    cases h
    exact x_iret rfl d_P_find_65
  · refine x_aload_n 0 d_P_find_42 rfl rfl ?_
    refine x_aload 3 d_P_find_43 rfl ?_
    refine x_callV' (M' := m_D_nextSource) (ax := []) (cv := cvI) (host := (some "PieceTexts")) (st := [va_rf x0]) h (fun q h l => s_D_nextSource d x6 S q h l D) hc_3 rfl d_P_find_45 wm_P_190 wc_D_nextSource rfl (Nat.le_of_ble_eq_true rfl) (fun q1 h => ?_)
    show V _ _ _ _ _ _ _ (.int q1.1 :: va_rf x0 :: []) _
    refine x_callV' (M' := m_P_byteAt) (ax := [.inl q1.1]) (cv := cvI) (host := none) (st := []) h (fun q h l => s_P_byteAt d x0 q1.1 q1.2 q h l D) hc_0 rfl d_P_find_48 wm_P_154 wc_P_byteAt rfl (Nat.le_of_ble_eq_true rfl) (fun q2 h => ?_)
    show V _ _ _ _ _ _ _ (.int q2.1 :: []) _
    refine x_iload_n 1 d_P_find_51 rfl rfl ?_
    refine x_icmp_ne (tgt := 58) d_P_find_52 (by decide) h (fun h => ?_) (fun h => ?_)
    · refine x_iinc (v := 1) (lv' := [(7, .inl (x7 + 1)), (0, .inr (.inr x0)), (3, .inl x3), (5, .inl x5), (6, .inr (.inr x6))]) 4 d_P_find_58 rfl (by decide) (by decide) rfl ?_
      refine x_goto (tgt := 35) d_P_find_61 (by decide) ?_
      refine x_ls [1, 2, 3, 4, 0] rfl ?_
      exact hk35 x0 x3 x5 x6 (x7 + 1) q2.2 _ h
    · refine x_iload 4 d_P_find_55 rfl ?_
      cases h
      exact x_iret rfl d_P_find_57
theorem tl_P_find_35 {D : xD} {d : Nat} {S0 : xS} : ∀ (n : Nat) (x0 : Option Nat) (x3 : Int32) (x5 : Int32) (x6 : Option Nat) (x7 : Int32) (S : xS) (z : (Int32 ⊕ Nat) × xS), l_P_find_35 d n x0 x3 x5 x6 x7 S = some z → V m_P_find D (d + 1) S0 (cvT z) 35 [(0, .inr (.inr x0)), (3, .inl x3), (5, .inl x5), (6, .inr (.inr x6)), (7, .inl x7)] [] S := by
  intro n
  induction n with
  | zero =>
    intro x0 x3 x5 x6 x7 S z h
    cases h
  | succ n ih =>
    intro x0 x3 x5 x6 x7 S z h
    exact tb_P_find_35  ih x0 x3 x5 x6 x7 S z h
set_option maxRecDepth 100000 in
set_option maxHeartbeats 4000000 in
theorem te_P_find {D : xD} {d : Nat} {S0 : xS} : ∀ (p0 : Option Nat) (p1 : Int32) (p2 : Int32) (p3 : Int32) (S : xS) (z : (Int32 ⊕ Nat) × xS), e_P_find d p0 p1 p2 p3 S = some z → V m_P_find D (d + 1) S0 (cvT z) 0 [(0, .inr (.inr p0)), (1, .inl p1), (2, .inl p2), (3, .inl p3)] [] S := by
  intro p0 p1 p2 p3 S z h
  unfold e_P_find at h
  refine x_aload_n 0 d_P_find_0 rfl rfl ?_
  refine x_iload_n 1 d_P_find_1 rfl rfl ?_
  refine x_iload_n 2 d_P_find_2 rfl rfl ?_
  refine x_callV' (M' := m_P_demandEdge) (ax := [.inl p1, .inl p2]) (cv := cvU) (host := none) (st := []) h (fun q h l => s_P_demandEdge d p0 p1 p2 S q h l D) hc_0 rfl d_P_find_3 wm_P_50 wc_P_demandEdge rfl (Nat.le_of_ble_eq_true rfl) (fun q1 h => ?_)
  refine x_tryV h (fun v2 h => ?_) (fun e h => ?_)
  · refine x_aload_n 0 d_P_find_6 rfl rfl ?_
    refine x_iload_n 1 d_P_find_7 rfl rfl ?_
    refine x_callV' (M' := m_P_rootOf) (ax := [.inl p1]) (cv := cvR) (host := none) (st := []) h (fun q h l => s_P_rootOf d p0 p1 q1.2 q h l D) hc_0 rfl d_P_find_8 wm_P_59 wc_P_rootOf rfl (Nat.le_of_ble_eq_true rfl) (fun q3 h => ?_)
    show V _ _ _ _ _ _ _ (va_rf q3.1 :: []) _
    refine x_astore (lv' := [(4, .inr (.inr q3.1)), (0, .inr (.inr p0)), (1, .inl p1), (2, .inl p2), (3, .inl p3)]) d_P_find_11 (by decide) rfl ?_
    refine x_aload 0 d_P_find_13 rfl ?_
    refine x_callS' (M' := m_R_charactersOf) (ax := [.inr (.inr q3.1)]) (cv := cvI) (host := (some "PieceTexts")) (st := []) h (fun q h l => s_R_charactersOf d q3.1 q3.2 q h l D) rfl d_P_find_15 wm_P_137 wc_R_charactersOf rfl (Nat.le_of_ble_eq_true rfl) (fun q4 h => ?_)
    show V _ _ _ _ _ _ _ (.int q4.1 :: []) _
    refine x_istore (lv' := [(5, .inl q4.1), (4, .inr (.inr q3.1)), (0, .inr (.inr p0)), (1, .inl p1), (2, .inl p2), (3, .inl p3)]) d_P_find_18 (by decide) rfl ?_
    refine x_new h hc_3 hi_3 tyX_3 ht_3 rfl hdf_3 wk_P_186 wn_3 wi_D d_P_find_20 (fun q5 h => ?_)
    refine x_dup d_P_find_23 (xcat _) ?_
    refine x_aload 1 d_P_find_24 rfl ?_
    refine x_iload_n 4 d_P_find_26 rfl rfl ?_
    refine x_callI' (M' := m_D_init) (ax := [.inr (.inr q3.1), .inl p2]) (cv := cvV) (host := (some "PieceTexts")) (st := [va_rf (some q5.1)]) h (fun q h l => s_D_init d (some q5.1) q3.1 p2 q5.2 q h l D) rfl d_P_find_27 wm_P_188 wc_D_init rfl (Nat.le_of_ble_eq_true rfl) (fun q6 h => ?_)
    show V _ _ _ _ _ _ _ (va_rf (some q5.1) :: []) _
    refine x_astore (lv' := [(6, .inr (.inr (some q5.1))), (5, .inl q4.1), (4, .inr (.inr q3.1)), (0, .inr (.inr p0)), (1, .inl p1), (2, .inl p2), (3, .inl p3)]) d_P_find_30 (by decide) rfl ?_
    refine x_iload_n 5 d_P_find_32 rfl rfl ?_
    refine x_istore (lv' := [(7, .inl p2), (6, .inr (.inr (some q5.1))), (5, .inl q4.1), (4, .inr (.inr q3.1)), (0, .inr (.inr p0)), (1, .inl p1), (2, .inl p2), (3, .inl p3)]) d_P_find_33 (by decide) rfl ?_
    refine x_ls [4, 7, 2, 1, 0] rfl ?_
    exact tl_P_find_35 xN p0 p3 q4.1 (some q5.1) p2 q6.2 _ h
  · cases h
    rfl
theorem s_P_find : ∀ (d : Nat) (p0 : Option Nat) (p1 : Int32) (p2 : Int32) (p3 : Int32) (S : xS) (z : (Int32 ⊕ Nat) × xS), f_P_find d p0 p1 p2 p3 S = some z → ∀ (l : Launch) (D : xD), xMet l m_P_find D d [.inr (.inr p0), .inl p1, .inl p2, .inl p3] S (cvT z) := by
  intro d
  induction d with
  | zero =>
    intro p0 p1 p2 p3 S z h
    cases h
  | succ d ih =>
    intro p0 p1 p2 p3 S z h l D
    exact x_ofV rfl (by decide) (Nat.le_of_ble_eq_true rfl) (te_P_find  p0 p1 p2 p3 S z h)
set_option maxRecDepth 100000 in
set_option maxHeartbeats 4000000 in
theorem tb_P_differ_63 {D : xD} {d : Nat} {S0 : xS} {k63 : Option Nat → Int32 → Option Nat → Option Nat → Int32 → xS → Option ((Int32 ⊕ Nat) × xS)} (hk63 : ∀ (x0 : Option Nat) (x3 : Int32) (x4 : Option Nat) (x5 : Option Nat) (x6 : Int32)  (S : xS) (z : (Int32 ⊕ Nat) × xS), k63 x0 x3 x4 x5 x6 S = some z → V m_P_differ D (d + 1) S0 (cvT z) 63 [(0, .inr (.inr x0)), (3, .inl x3), (4, .inr (.inr x4)), (5, .inr (.inr x5)), (6, .inl x6)] [] S) : ∀ (x0 : Option Nat) (x3 : Int32) (x4 : Option Nat) (x5 : Option Nat) (x6 : Int32) (S : xS) (z : (Int32 ⊕ Nat) × xS), b_P_differ_63 d k63 x0 x3 x4 x5 x6 S = some z → V m_P_differ D (d + 1) S0 (cvT z) 63 [(0, .inr (.inr x0)), (3, .inl x3), (4, .inr (.inr x4)), (5, .inr (.inr x5)), (6, .inl x6)] [] S := by
  intro x0 x3 x4 x5 x6 S z h
  unfold b_P_differ_63 at h
  refine x_iload 4 d_P_differ_63 rfl ?_
  refine x_iload_n 1 d_P_differ_65 rfl rfl ?_
  refine x_icmp_ge (tgt := 99) d_P_differ_66 (by decide) h (fun h => ?_) (fun h => ?_)
  · refine x_iconst (v := (-1)) d_P_differ_99 (by decide) ?_
    cases h
    exact x_iret rfl d_P_differ_100
  · refine x_aload_n 0 d_P_differ_69 rfl rfl ?_
    refine x_aload 2 d_P_differ_70 rfl ?_
    refine x_callV' (M' := m_D_nextSource) (ax := []) (cv := cvI) (host := (some "PieceTexts")) (st := [va_rf x0]) h (fun q h l => s_D_nextSource d x4 S q h l D) hc_3 rfl d_P_differ_72 wm_P_190 wc_D_nextSource rfl (Nat.le_of_ble_eq_true rfl) (fun q1 h => ?_)
    show V _ _ _ _ _ _ _ (.int q1.1 :: va_rf x0 :: []) _
    refine x_callV' (M' := m_P_byteAt) (ax := [.inl q1.1]) (cv := cvI) (host := none) (st := []) h (fun q h l => s_P_byteAt d x0 q1.1 q1.2 q h l D) hc_0 rfl d_P_differ_75 wm_P_154 wc_P_byteAt rfl (Nat.le_of_ble_eq_true rfl) (fun q2 h => ?_)
    show V _ _ _ _ _ _ _ (.int q2.1 :: []) _
    refine x_aload_n 0 d_P_differ_78 rfl rfl ?_
    refine x_aload 3 d_P_differ_79 rfl ?_
    refine x_callV' (M' := m_D_nextSource) (ax := []) (cv := cvI) (host := (some "PieceTexts")) (st := [va_rf x0, .int q2.1]) h (fun q h l => s_D_nextSource d x5 q2.2 q h l D) hc_3 rfl d_P_differ_81 wm_P_190 wc_D_nextSource rfl (Nat.le_of_ble_eq_true rfl) (fun q3 h => ?_)
    show V _ _ _ _ _ _ _ (.int q3.1 :: va_rf x0 :: .int q2.1 :: []) _
    refine x_callV' (M' := m_P_byteAt) (ax := [.inl q3.1]) (cv := cvI) (host := none) (st := [.int q2.1]) h (fun q h l => s_P_byteAt d x0 q3.1 q3.2 q h l D) hc_0 rfl d_P_differ_84 wm_P_154 wc_P_byteAt rfl (Nat.le_of_ble_eq_true rfl) (fun q4 h => ?_)
    show V _ _ _ _ _ _ _ (.int q4.1 :: .int q2.1 :: []) _
    refine x_icmp_eq (tgt := 93) d_P_differ_87 (by decide) h (fun h => ?_) (fun h => ?_)
    · refine x_iinc (v := 1) (lv' := [(6, .inl (x6 + 1)), (0, .inr (.inr x0)), (3, .inl x3), (4, .inr (.inr x4)), (5, .inr (.inr x5))]) 4 d_P_differ_93 rfl (by decide) (by decide) rfl ?_
      refine x_goto (tgt := 63) d_P_differ_96 (by decide) ?_
      refine x_ls [1, 2, 3, 4, 0] rfl ?_
      exact hk63 x0 x3 x4 x5 (x6 + 1) q4.2 _ h
    · refine x_iload 4 d_P_differ_90 rfl ?_
      cases h
      exact x_iret rfl d_P_differ_92
theorem tl_P_differ_63 {D : xD} {d : Nat} {S0 : xS} : ∀ (n : Nat) (x0 : Option Nat) (x3 : Int32) (x4 : Option Nat) (x5 : Option Nat) (x6 : Int32) (S : xS) (z : (Int32 ⊕ Nat) × xS), l_P_differ_63 d n x0 x3 x4 x5 x6 S = some z → V m_P_differ D (d + 1) S0 (cvT z) 63 [(0, .inr (.inr x0)), (3, .inl x3), (4, .inr (.inr x4)), (5, .inr (.inr x5)), (6, .inl x6)] [] S := by
  intro n
  induction n with
  | zero =>
    intro x0 x3 x4 x5 x6 S z h
    cases h
  | succ n ih =>
    intro x0 x3 x4 x5 x6 S z h
    exact tb_P_differ_63  ih x0 x3 x4 x5 x6 S z h
set_option maxRecDepth 100000 in
set_option maxHeartbeats 4000000 in
theorem te_P_differ {D : xD} {d : Nat} {S0 : xS} : ∀ (p0 : Option Nat) (p1 : Int32) (p2 : Int32) (S : xS) (z : (Int32 ⊕ Nat) × xS), e_P_differ d p0 p1 p2 S = some z → V m_P_differ D (d + 1) S0 (cvT z) 0 [(0, .inr (.inr p0)), (1, .inl p1), (2, .inl p2)] [] S := by
  intro p0 p1 p2 S z h
  unfold e_P_differ at h
  refine x_aload_n 0 d_P_differ_0 rfl rfl ?_
  refine x_iload_n 1 d_P_differ_1 rfl rfl ?_
  refine x_callV' (M' := m_P_demandText) (ax := [.inl p1]) (cv := cvU) (host := none) (st := []) h (fun q h l => s_P_demandText d p0 p1 S q h l D) hc_0 rfl d_P_differ_2 wm_P_107 wc_P_demandText rfl (Nat.le_of_ble_eq_true rfl) (fun q1 h => ?_)
  refine x_tryV h (fun v2 h => ?_) (fun e h => ?_)
  · refine x_aload_n 0 d_P_differ_5 rfl rfl ?_
    refine x_iload_n 2 d_P_differ_6 rfl rfl ?_
    refine x_callV' (M' := m_P_demandText) (ax := [.inl p2]) (cv := cvU) (host := none) (st := []) h (fun q h l => s_P_demandText d p0 p2 q1.2 q h l D) hc_0 rfl d_P_differ_7 wm_P_107 wc_P_demandText rfl (Nat.le_of_ble_eq_true rfl) (fun q3 h => ?_)
    refine x_tryV h (fun v4 h => ?_) (fun e h => ?_)
    · refine x_aload_n 0 d_P_differ_10 rfl rfl ?_
      refine x_iload_n 1 d_P_differ_11 rfl rfl ?_
      refine x_callV' (M' := m_P_rootOf) (ax := [.inl p1]) (cv := cvR) (host := none) (st := []) h (fun q h l => s_P_rootOf d p0 p1 q3.2 q h l D) hc_0 rfl d_P_differ_12 wm_P_59 wc_P_rootOf rfl (Nat.le_of_ble_eq_true rfl) (fun q5 h => ?_)
      show V _ _ _ _ _ _ _ (va_rf q5.1 :: []) _
      refine x_callS' (M' := m_R_charactersOf) (ax := [.inr (.inr q5.1)]) (cv := cvI) (host := (some "PieceTexts")) (st := []) h (fun q h l => s_R_charactersOf d q5.1 q5.2 q h l D) rfl d_P_differ_15 wm_P_137 wc_R_charactersOf rfl (Nat.le_of_ble_eq_true rfl) (fun q6 h => ?_)
      show V _ _ _ _ _ _ _ (.int q6.1 :: []) _
      refine x_aload_n 0 d_P_differ_18 rfl rfl ?_
      refine x_iload_n 2 d_P_differ_19 rfl rfl ?_
      refine x_callV' (M' := m_P_rootOf) (ax := [.inl p2]) (cv := cvR) (host := none) (st := [.int q6.1]) h (fun q h l => s_P_rootOf d p0 p2 q6.2 q h l D) hc_0 rfl d_P_differ_20 wm_P_59 wc_P_rootOf rfl (Nat.le_of_ble_eq_true rfl) (fun q7 h => ?_)
      show V _ _ _ _ _ _ _ (va_rf q7.1 :: .int q6.1 :: []) _
      refine x_callS' (M' := m_R_charactersOf) (ax := [.inr (.inr q7.1)]) (cv := cvI) (host := (some "PieceTexts")) (st := [.int q6.1]) h (fun q h l => s_R_charactersOf d q7.1 q7.2 q h l D) rfl d_P_differ_23 wm_P_137 wc_R_charactersOf rfl (Nat.le_of_ble_eq_true rfl) (fun q8 h => ?_)
      show V _ _ _ _ _ _ _ (.int q8.1 :: .int q6.1 :: []) _
      refine x_mmax d_P_differ_26 ⟨wh_P_194, whs_max, wi_Math, whc_max⟩ (Nat.le_of_ble_eq_true rfl) ?_
      refine x_istore_n (lv' := [(3, .inl (xmax q6.1 q8.1)), (0, .inr (.inr p0)), (1, .inl p1), (2, .inl p2)]) d_P_differ_29 rfl (by decide) rfl ?_
      refine x_new h hc_3 hi_3 tyX_3 ht_3 rfl hdf_3 wk_P_186 wn_3 wi_D d_P_differ_30 (fun q9 h => ?_)
      refine x_dup d_P_differ_33 (xcat _) ?_
      refine x_aload_n 1 d_P_differ_34 rfl rfl ?_
      refine x_iload_n 2 d_P_differ_35 rfl rfl ?_
      refine x_callV' (M' := m_P_rootOf) (ax := [.inl p1]) (cv := cvR) (host := none) (st := [va_rf (some q9.1), va_rf (some q9.1)]) h (fun q h l => s_P_rootOf d p0 p1 q9.2 q h l D) hc_0 rfl d_P_differ_36 wm_P_59 wc_P_rootOf rfl (Nat.le_of_ble_eq_true rfl) (fun q10 h => ?_)
      show V _ _ _ _ _ _ _ (va_rf q10.1 :: va_rf (some q9.1) :: va_rf (some q9.1) :: []) _
      refine x_iconst (v := 0) d_P_differ_39 (by decide) ?_
      refine x_callI' (M' := m_D_init) (ax := [.inr (.inr q10.1), .inl 0]) (cv := cvV) (host := (some "PieceTexts")) (st := [va_rf (some q9.1)]) h (fun q h l => s_D_init d (some q9.1) q10.1 0 q10.2 q h l D) rfl d_P_differ_40 wm_P_188 wc_D_init rfl (Nat.le_of_ble_eq_true rfl) (fun q11 h => ?_)
      show V _ _ _ _ _ _ _ (va_rf (some q9.1) :: []) _
      refine x_astore (lv' := [(4, .inr (.inr (some q9.1))), (3, .inl (xmax q6.1 q8.1)), (0, .inr (.inr p0)), (1, .inl p1), (2, .inl p2)]) d_P_differ_43 (by decide) rfl ?_
      refine x_new h hc_3 hi_3 tyX_3 ht_3 rfl hdf_3 wk_P_186 wn_3 wi_D d_P_differ_45 (fun q12 h => ?_)
      refine x_dup d_P_differ_48 (xcat _) ?_
      refine x_aload_n 2 d_P_differ_49 rfl rfl ?_
      refine x_iload_n 4 d_P_differ_50 rfl rfl ?_
      refine x_callV' (M' := m_P_rootOf) (ax := [.inl p2]) (cv := cvR) (host := none) (st := [va_rf (some q12.1), va_rf (some q12.1)]) h (fun q h l => s_P_rootOf d p0 p2 q12.2 q h l D) hc_0 rfl d_P_differ_51 wm_P_59 wc_P_rootOf rfl (Nat.le_of_ble_eq_true rfl) (fun q13 h => ?_)
      show V _ _ _ _ _ _ _ (va_rf q13.1 :: va_rf (some q12.1) :: va_rf (some q12.1) :: []) _
      refine x_iconst (v := 0) d_P_differ_54 (by decide) ?_
      refine x_callI' (M' := m_D_init) (ax := [.inr (.inr q13.1), .inl 0]) (cv := cvV) (host := (some "PieceTexts")) (st := [va_rf (some q12.1)]) h (fun q h l => s_D_init d (some q12.1) q13.1 0 q13.2 q h l D) rfl d_P_differ_55 wm_P_188 wc_D_init rfl (Nat.le_of_ble_eq_true rfl) (fun q14 h => ?_)
      show V _ _ _ _ _ _ _ (va_rf (some q12.1) :: []) _
      refine x_astore (lv' := [(5, .inr (.inr (some q12.1))), (4, .inr (.inr (some q9.1))), (3, .inl (xmax q6.1 q8.1)), (0, .inr (.inr p0)), (1, .inl p1), (2, .inl p2)]) d_P_differ_58 (by decide) rfl ?_
      refine x_iconst (v := 0) d_P_differ_60 (by decide) ?_
      refine x_istore (lv' := [(6, .inl 0), (5, .inr (.inr (some q12.1))), (4, .inr (.inr (some q9.1))), (3, .inl (xmax q6.1 q8.1)), (0, .inr (.inr p0)), (1, .inl p1), (2, .inl p2)]) d_P_differ_61 (by decide) rfl ?_
      refine x_ls [4, 3, 2, 1, 0] rfl ?_
      exact tl_P_differ_63 xN p0 (xmax q6.1 q8.1) (some q9.1) (some q12.1) 0 q14.2 _ h
    · cases h
      rfl
  · cases h
    rfl
theorem s_P_differ : ∀ (d : Nat) (p0 : Option Nat) (p1 : Int32) (p2 : Int32) (S : xS) (z : (Int32 ⊕ Nat) × xS), f_P_differ d p0 p1 p2 S = some z → ∀ (l : Launch) (D : xD), xMet l m_P_differ D d [.inr (.inr p0), .inl p1, .inl p2] S (cvT z) := by
  intro d
  induction d with
  | zero =>
    intro p0 p1 p2 S z h
    cases h
  | succ d ih =>
    intro p0 p1 p2 S z h l D
    exact x_ofV rfl (by decide) (Nat.le_of_ble_eq_true rfl) (te_P_differ  p0 p1 p2 S z h)
set_option maxRecDepth 100000 in
set_option maxHeartbeats 4000000 in
theorem tb_P_allShallow_10 {D : xD} {d : Nat} {S0 : xS} {k10 : Option Nat → Int32 → Int32 → xS → Option (Int32 × xS)} (hk10 : ∀ (x1 : Option Nat) (x2 : Int32) (x3 : Int32)  (S : xS) (z : Int32 × xS), k10 x1 x2 x3 S = some z → V m_P_allShallow D (d + 1) S0 (cvI z) 10 [(1, .inr (.inr x1)), (2, .inl x2), (3, .inl x3)] [] S) : ∀ (x1 : Option Nat) (x2 : Int32) (x3 : Int32) (S : xS) (z : Int32 × xS), b_P_allShallow_10 d k10 x1 x2 x3 S = some z → V m_P_allShallow D (d + 1) S0 (cvI z) 10 [(1, .inr (.inr x1)), (2, .inl x2), (3, .inl x3)] [] S := by
  intro x1 x2 x3 S z h
  unfold b_P_allShallow_10 at h
  refine x_iload_n 2 d_P_allShallow_10 rfl rfl ?_
  refine x_iload_n 1 d_P_allShallow_11 rfl rfl ?_
  refine x_icmp_ge (tgt := 36) d_P_allShallow_12 (by decide) h (fun h => ?_) (fun h => ?_)
  · refine x_iconst (v := 1) d_P_allShallow_36 (by decide) ?_
    exact x_zretI h rfl d_P_allShallow_37
  · refine x_aload_n 0 d_P_allShallow_15 rfl rfl ?_
    refine x_iload_n 2 d_P_allShallow_16 rfl rfl ?_
    refine x_aald h ha_2 d_P_allShallow_17 (fun v1 h => ?_)
    refine x_astore (lv' := [(4, .inr (.inr v1)), (1, .inr (.inr x1)), (2, .inl x2), (3, .inl x3)]) d_P_allShallow_18 (by decide) rfl ?_
    refine x_aload 0 d_P_allShallow_20 rfl ?_
    refine x_callS' (M' := m_R_isShallow) (ax := [.inr (.inr v1)]) (cv := cvI) (host := (some "PieceTexts")) (st := []) h (fun q h l => s_R_isShallow d v1 S q h l D) rfl d_P_allShallow_22 wm_P_212 wc_R_isShallow rfl (Nat.le_of_ble_eq_true rfl) (fun q2 h => ?_)
    show V _ _ _ _ _ _ _ (.int q2.1 :: []) _
    refine x_if_ne (tgt := 30) d_P_allShallow_25 (by decide) h (fun h => ?_) (fun h => ?_)
    · refine x_iinc (v := 1) (lv' := [(3, .inl (x3 + 1)), (4, .inr (.inr v1)), (1, .inr (.inr x1)), (2, .inl x2)]) 3 d_P_allShallow_30 rfl (by decide) (by decide) rfl ?_
      refine x_goto (tgt := 10) d_P_allShallow_33 (by decide) ?_
      refine x_ls [2, 3, 0] rfl ?_
      exact hk10 x1 x2 (x3 + 1) q2.2 _ h
    · refine x_iconst (v := 0) d_P_allShallow_28 (by decide) ?_
      exact x_zretI h rfl d_P_allShallow_29
theorem tl_P_allShallow_10 {D : xD} {d : Nat} {S0 : xS} : ∀ (n : Nat) (x1 : Option Nat) (x2 : Int32) (x3 : Int32) (S : xS) (z : Int32 × xS), l_P_allShallow_10 d n x1 x2 x3 S = some z → V m_P_allShallow D (d + 1) S0 (cvI z) 10 [(1, .inr (.inr x1)), (2, .inl x2), (3, .inl x3)] [] S := by
  intro n
  induction n with
  | zero =>
    intro x1 x2 x3 S z h
    cases h
  | succ n ih =>
    intro x1 x2 x3 S z h
    exact tb_P_allShallow_10  ih x1 x2 x3 S z h
set_option maxRecDepth 100000 in
set_option maxHeartbeats 4000000 in
theorem te_P_allShallow {D : xD} {d : Nat} {S0 : xS} : ∀ (p0 : Option Nat) (S : xS) (z : Int32 × xS), e_P_allShallow d p0 S = some z → V m_P_allShallow D (d + 1) S0 (cvI z) 0 [(0, .inr (.inr p0))] [] S := by
  intro p0 S z h
  unfold e_P_allShallow at h
  refine x_aload_n 0 d_P_allShallow_0 rfl rfl ?_
  refine x_getR (host := none) h hc_0 hi_0 (by decide) wf_P_15 d_P_allShallow_1 (fun v1 h => ?_)
  refine x_astore_n (lv' := [(1, .inr (.inr v1)), (0, .inr (.inr p0))]) d_P_allShallow_4 rfl (by decide) rfl ?_
  refine x_aload_n 0 d_P_allShallow_5 rfl rfl ?_
  refine x_len h ha_2 d_P_allShallow_6 (fun v2 h => ?_)
  refine x_istore_n (lv' := [(2, .inl v2), (1, .inr (.inr v1)), (0, .inr (.inr p0))]) d_P_allShallow_7 rfl (by decide) rfl ?_
  refine x_iconst (v := 0) d_P_allShallow_8 (by decide) ?_
  refine x_istore_n (lv' := [(3, .inl 0), (2, .inl v2), (1, .inr (.inr v1)), (0, .inr (.inr p0))]) d_P_allShallow_9 rfl (by decide) rfl ?_
  refine x_ls [2, 1, 0] rfl ?_
  exact tl_P_allShallow_10 xN v1 v2 0 S _ h
theorem s_P_allShallow : ∀ (d : Nat) (p0 : Option Nat) (S : xS) (z : Int32 × xS), f_P_allShallow d p0 S = some z → ∀ (l : Launch) (D : xD), xMet l m_P_allShallow D d [.inr (.inr p0)] S (cvI z) := by
  intro d
  induction d with
  | zero =>
    intro p0 S z h
    cases h
  | succ d ih =>
    intro p0 S z h l D
    exact x_ofV rfl (by decide) (Nat.le_of_ble_eq_true rfl) (te_P_allShallow  p0 S z h)
set_option maxRecDepth 100000 in
set_option maxHeartbeats 4000000 in
theorem tb_P_count_59 {D : xD} {d : Nat} {S0 : xS} : ∀ (y0 : Int32) (S : xS) (z : Int32 × xS), b_P_count_59 d y0 S = some z → V m_P_count D (d + 1) S0 (cvI z) 59 [] [.int y0] S := by
  intro y0 S z h
  unfold b_P_count_59 at h
  cases h
  exact x_iret rfl d_P_count_59
set_option maxRecDepth 100000 in
set_option maxHeartbeats 4000000 in
theorem te_P_count {D : xD} {d : Nat} {S0 : xS} : ∀ (p0 : Option Nat) (p1 : Int32) (S : xS) (z : Int32 × xS), e_P_count d p0 p1 S = some z → V m_P_count D (d + 1) S0 (cvI z) 0 [(0, .inr (.inr p0)), (1, .inl p1)] [] S := by
  intro p0 p1 S z h
  unfold e_P_count at h
  refine x_iload_n 1 d_P_count_0 rfl rfl ?_
  by_cases e0 : p1 = 0
  · rw [if_pos e0] at h
    refine x_tabIn (k := 0) (tgt := 32) d_P_count_1 e0 (by decide) (by decide) rfl (by decide) ?_
    refine x_aload_n 0 d_P_count_32 rfl rfl ?_
    refine x_getI (host := none) h hc_0 hi_0 (by decide) wf_P_37 d_P_count_33 (fun v1 h => ?_)
    cases h
    exact x_iret rfl d_P_count_36
  rw [if_neg e0] at h
  by_cases e1 : p1 = 1
  · rw [if_pos e1] at h
    refine x_tabIn (k := 1) (tgt := 37) d_P_count_1 e1 (by decide) (by decide) rfl (by decide) ?_
    refine x_aload_n 0 d_P_count_37 rfl rfl ?_
    refine x_callV' (M' := m_P_charactersInAll) (ax := []) (cv := cvI) (host := none) (st := []) h (fun q h l => s_P_charactersInAll d p0 S q h l D) hc_0 rfl d_P_count_38 wm_P_200 wc_P_charactersInAll rfl (Nat.le_of_ble_eq_true rfl) (fun q2 h => ?_)
    show V _ _ _ _ _ _ _ (.int q2.1 :: []) _
    cases h
    exact x_iret rfl d_P_count_41
  rw [if_neg e1] at h
  by_cases e2 : p1 = 2
  · rw [if_pos e2] at h
    refine x_tabIn (k := 2) (tgt := 42) d_P_count_1 e2 (by decide) (by decide) rfl (by decide) ?_
    refine x_aload_n 0 d_P_count_42 rfl rfl ?_
    refine x_callV' (M' := m_P_piecesInAll) (ax := []) (cv := cvI) (host := none) (st := []) h (fun q h l => s_P_piecesInAll d p0 S q h l D) hc_0 rfl d_P_count_43 wm_P_203 wc_P_piecesInAll rfl (Nat.le_of_ble_eq_true rfl) (fun q3 h => ?_)
    show V _ _ _ _ _ _ _ (.int q3.1 :: []) _
    cases h
    exact x_iret rfl d_P_count_46
  rw [if_neg e2] at h
  by_cases e3 : p1 = 3
  · rw [if_pos e3] at h
    refine x_tabIn (k := 3) (tgt := 47) d_P_count_1 e3 (by decide) (by decide) rfl (by decide) ?_
    refine x_aload_n 0 d_P_count_47 rfl rfl ?_
    refine x_callV' (M' := m_P_allShallow) (ax := []) (cv := cvI) (host := none) (st := []) h (fun q h l => s_P_allShallow d p0 S q h l D) hc_0 rfl d_P_count_48 wm_P_206 wc_P_allShallow rfl (Nat.le_of_ble_eq_true rfl) (fun q4 h => ?_)
    show V _ _ _ _ _ _ _ (.int q4.1 :: []) _
    refine x_if_eq (tgt := 58) d_P_count_51 (by decide) h (fun h => ?_) (fun h => ?_)
    · refine x_iconst (v := 0) d_P_count_58 (by decide) ?_
      refine x_ls [] rfl ?_
      exact tb_P_count_59 0 q4.2 _ h
    · refine x_iconst (v := 1) d_P_count_54 (by decide) ?_
      refine x_goto (tgt := 59) d_P_count_55 (by decide) ?_
      refine x_ls [] rfl ?_
      exact tb_P_count_59 1 q4.2 _ h
  rw [if_neg e3] at h
  refine x_tabOut (tgt := 60) d_P_count_1 (xtab_4 e0 e1 e2 e3) (by decide) ?_
  refine x_iconst (v := (-1)) d_P_count_60 (by decide) ?_
  cases h
  exact x_iret rfl d_P_count_61
theorem s_P_count : ∀ (d : Nat) (p0 : Option Nat) (p1 : Int32) (S : xS) (z : Int32 × xS), f_P_count d p0 p1 S = some z → ∀ (l : Launch) (D : xD), xMet l m_P_count D d [.inr (.inr p0), .inl p1] S (cvI z) := by
  intro d
  induction d with
  | zero =>
    intro p0 p1 S z h
    cases h
  | succ d ih =>
    intro p0 p1 S z h l D
    exact x_ofV rfl (by decide) (Nat.le_of_ble_eq_true rfl) (te_P_count  p0 p1 S z h)
