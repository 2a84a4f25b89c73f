set_option maxRecDepth 100000 in
set_option maxHeartbeats 4000000 in
theorem te_M_init {D : xD} {d : Nat} {S0 : xS} : ∀ (p0 : Option Nat) (S : xS) (z : Unit × xS), e_M_init d p0 S = some z → V m_M_init D (d + 1) S0 (cvV z) 0 [(0, .inr (.inr p0))] [] S := by
  intro p0 S z h
  unfold e_M_init at h
  refine x_aload_n 0 d_M_init_0 rfl rfl ?_
  refine x_objInit' h d_M_init_1 wO_M_1 w_objI w_objC (Nat.le_of_ble_eq_true rfl) (fun h => ?_)
  refine x_aload_n 0 d_M_init_4 rfl rfl ?_
  refine x_sipush (v := 2048) d_M_init_5 (by decide) ?_
  refine x_newa h ha_3 rfl (fun _ _ => rfl) (fun _ _ => rfl) (by decide) wa_3 d_M_init_8 (fun q1 h => ?_)
  refine x_putF h hc_5 hi_5 tyX_5 ht_5 hn_5 (by decide) rfl rfl rfl (xnar_a _ _) (xfit_a _ _) wf_M_7p d_M_init_10 (fun S2 h => ?_)
  refine x_aload_n 0 d_M_init_13 rfl rfl ?_
  refine x_bipush (v := 17) d_M_init_14 (by decide) ?_
  refine x_newa h ha_3 rfl (fun _ _ => rfl) (fun _ _ => rfl) (by decide) wa_3 d_M_init_16 (fun q3 h => ?_)
  refine x_putF h hc_5 hi_5 tyX_5 ht_5 hn_5 (by decide) rfl rfl rfl (xnar_a _ _) (xfit_a _ _) wf_M_13p d_M_init_18 (fun S4 h => ?_)
  refine x_aload_n 0 d_M_init_21 rfl rfl ?_
  refine x_sipush (v := 4096) d_M_init_22 (by decide) ?_
  refine x_newa h ha_3 rfl (fun _ _ => rfl) (fun _ _ => rfl) (by decide) wa_3 d_M_init_25 (fun q5 h => ?_)
  refine x_putF h hc_5 hi_5 tyX_5 ht_5 hn_5 (by decide) rfl rfl rfl (xnar_a _ _) (xfit_a _ _) wf_M_16p d_M_init_27 (fun S6 h => ?_)
  refine x_aload_n 0 d_M_init_30 rfl rfl ?_
  refine x_sipush (v := 4096) d_M_init_31 (by decide) ?_
  refine x_newa h ha_3 rfl (fun _ _ => rfl) (fun _ _ => rfl) (by decide) wa_3 d_M_init_34 (fun q7 h => ?_)
  refine x_putF h hc_5 hi_5 tyX_5 ht_5 hn_5 (by decide) rfl rfl rfl (xnar_a _ _) (xfit_a _ _) wf_M_19p d_M_init_36 (fun S8 h => ?_)
  refine x_aload_n 0 d_M_init_39 rfl rfl ?_
  refine x_sipush (v := 4096) d_M_init_40 (by decide) ?_
  refine x_newa h ha_3 rfl (fun _ _ => rfl) (fun _ _ => rfl) (by decide) wa_3 d_M_init_43 (fun q9 h => ?_)
  refine x_putF h hc_5 hi_5 tyX_5 ht_5 hn_5 (by decide) rfl rfl rfl (xnar_a _ _) (xfit_a _ _) wf_M_22p d_M_init_45 (fun S10 h => ?_)
  refine x_aload_n 0 d_M_init_48 rfl rfl ?_
  refine x_sipush (v := 4096) d_M_init_49 (by decide) ?_
  refine x_newa h ha_3 rfl (fun _ _ => rfl) (fun _ _ => rfl) (by decide) wa_3 d_M_init_52 (fun q11 h => ?_)
  refine x_putF h hc_5 hi_5 tyX_5 ht_5 hn_5 (by decide) rfl rfl rfl (xnar_a _ _) (xfit_a _ _) wf_M_25p d_M_init_54 (fun S12 h => ?_)
  cases h
  exact x_vret rfl d_M_init_57
theorem s_M_init : ∀ (d : Nat) (p0 : Option Nat) (S : xS) (z : Unit × xS), f_M_init d p0 S = some z → ∀ (l : Launch) (D : xD), xMet l m_M_init D d [.inr (.inr p0)] S (cvV z) := by
  intro d
  induction d with
  | zero =>
    intro p0 S z h
    cases h
  | succ d ih =>
    intro p0 S z h l D
    exact x_ofV rfl (by decide) (Nat.le_of_ble_eq_true rfl) (te_M_init  p0 S z h)
set_option maxRecDepth 100000 in
set_option maxHeartbeats 4000000 in
theorem te_M_thrown {D : xD} {d : Nat} {S0 : xS} : ∀ (p0 : Option Nat) (S : xS) (z : Int32 × xS), e_M_thrown d p0 S = some z → V m_M_thrown D (d + 1) S0 (cvI z) 0 [(0, .inr (.inr p0))] [] S := by
  intro p0 S z h
  unfold e_M_thrown at h
  refine x_aload_n 0 d_M_thrown_0 rfl rfl ?_
  refine x_getI (host := none) h hc_5 hi_5 (by decide) wf_M_28 d_M_thrown_1 (fun v1 h => ?_)
  cases h
  exact x_iret rfl d_M_thrown_4
theorem s_M_thrown : ∀ (d : Nat) (p0 : Option Nat) (S : xS) (z : Int32 × xS), f_M_thrown d p0 S = some z → ∀ (l : Launch) (D : xD), xMet l m_M_thrown D d [.inr (.inr p0)] S (cvI z) := by
  intro d
  induction d with
  | zero =>
    intro p0 S z h
    cases h
  | succ d ih =>
    intro p0 S z h l D
    exact x_ofV rfl (by decide) (Nat.le_of_ble_eq_true rfl) (te_M_thrown  p0 S z h)
set_option maxRecDepth 100000 in
set_option maxHeartbeats 4000000 in
theorem te_M_raise {D : xD} {d : Nat} {S0 : xS} : ∀ (p0 : Option Nat) (p1 : Int32) (S : xS) (z : Int32 × xS), e_M_raise d p0 p1 S = some z → V m_M_raise D (d + 1) S0 (cvI z) 0 [(0, .inr (.inr p0)), (1, .inl p1)] [] S := by
  intro p0 p1 S z h
  unfold e_M_raise at h
  refine x_aload_n 0 d_M_raise_0 rfl rfl ?_
  refine x_iload_n 1 d_M_raise_1 rfl rfl ?_
  refine x_put (host := none) h hc_5 hi_5 tyX_5 ht_5 hn_5 (by decide) rfl rfl rfl wf_M_28 d_M_raise_2 (fun S1 h => ?_)
  refine x_iconst (v := 0) d_M_raise_5 (by decide) ?_
  cases h
  exact x_iret rfl d_M_raise_6
theorem s_M_raise : ∀ (d : Nat) (p0 : Option Nat) (p1 : Int32) (S : xS) (z : Int32 × xS), f_M_raise d p0 p1 S = some z → ∀ (l : Launch) (D : xD), xMet l m_M_raise D d [.inr (.inr p0), .inl p1] S (cvI z) := by
  intro d
  induction d with
  | zero =>
    intro p0 p1 S z h
    cases h
  | succ d ih =>
    intro p0 p1 S z h l D
    exact x_ofV rfl (by decide) (Nat.le_of_ble_eq_true rfl) (te_M_raise  p0 p1 S z h)
set_option maxRecDepth 100000 in
set_option maxHeartbeats 4000000 in
theorem tb_M_isText_15 {D : xD} {d : Nat} {S0 : xS} : ∀ (y0 : Int32) (S : xS) (z : Int32 × xS), b_M_isText_15 d y0 S = some z → V m_M_isText D (d + 1) S0 (cvI z) 15 [] [.int y0] S := by
  intro y0 S z h
  unfold b_M_isText_15 at h
  exact x_zretI h rfl d_M_isText_15
set_option maxRecDepth 100000 in
set_option maxHeartbeats 4000000 in
theorem tb_M_isText_14 {D : xD} {d : Nat} {S0 : xS} : ∀  (S : xS) (z : Int32 × xS), b_M_isText_14 d  S = some z → V m_M_isText D (d + 1) S0 (cvI z) 14 [] [] S := by
  intro  S z h
  unfold b_M_isText_14 at h
  refine x_iconst (v := 0) d_M_isText_14 (by decide) ?_
  refine x_ls [] rfl ?_
  exact tb_M_isText_15 0 S _ h
set_option maxRecDepth 100000 in
set_option maxHeartbeats 4000000 in
theorem te_M_isText {D : xD} {d : Nat} {S0 : xS} : ∀ (p0 : Int32) (S : xS) (z : Int32 × xS), e_M_isText d p0 S = some z → V m_M_isText D (d + 1) S0 (cvI z) 0 [(0, .inl p0)] [] S := by
  intro p0 S z h
  unfold e_M_isText at h
  refine x_iload_n 0 d_M_isText_0 rfl rfl ?_
  refine x_if_lt (tgt := 14) d_M_isText_1 (by decide) h (fun h => ?_) (fun h => ?_)
  · refine x_ls [] rfl ?_
    exact tb_M_isText_14 S _ h
  · refine x_iload_n 0 d_M_isText_4 rfl rfl ?_
    refine x_bipush (v := 16) d_M_isText_5 (by decide) ?_
    refine x_icmp_ge (tgt := 14) d_M_isText_7 (by decide) h (fun h => ?_) (fun h => ?_)
    · refine x_ls [] rfl ?_
      exact tb_M_isText_14 S _ h
    · refine x_iconst (v := 1) d_M_isText_10 (by decide) ?_
      refine x_goto (tgt := 15) d_M_isText_11 (by decide) ?_
      refine x_ls [] rfl ?_
      exact tb_M_isText_15 1 S _ h
theorem s_M_isText : ∀ (d : Nat) (p0 : Int32) (S : xS) (z : Int32 × xS), f_M_isText d p0 S = some z → ∀ (l : Launch) (D : xD), xMet l m_M_isText D d [.inl p0] S (cvI z) := by
  intro d
  induction d with
  | zero =>
    intro p0 S z h
    cases h
  | succ d ih =>
    intro p0 S z h l D
    exact x_ofV rfl (by decide) (Nat.le_of_ble_eq_true rfl) (te_M_isText  p0 S z h)
set_option maxRecDepth 100000 in
set_option maxHeartbeats 4000000 in
theorem te_M_size {D : xD} {d : Nat} {S0 : xS} : ∀ (p0 : Option Nat) (p1 : Int32) (S : xS) (z : Int32 × xS), e_M_size d p0 p1 S = some z → V m_M_size D (d + 1) S0 (cvI z) 0 [(0, .inr (.inr p0)), (1, .inl p1)] [] S := by
  intro p0 p1 S z h
  unfold e_M_size at h
  refine x_aload_n 0 d_M_size_0 rfl rfl ?_
  refine x_getR (host := none) h hc_5 hi_5 (by decide) wf_M_13 d_M_size_1 (fun v1 h => ?_)
  refine x_iload_n 1 d_M_size_4 rfl rfl ?_
  refine x_iconst (v := 1) d_M_size_5 (by decide) ?_
  refine x_iadd d_M_size_6 ?_
  refine x_iald h ha_3 d_M_size_7 (fun v2 h => ?_)
  refine x_aload_n 0 d_M_size_8 rfl rfl ?_
  refine x_getR (host := none) h hc_5 hi_5 (by decide) wf_M_13 d_M_size_9 (fun v3 h => ?_)
  refine x_iload_n 1 d_M_size_12 rfl rfl ?_
  refine x_iald h ha_3 d_M_size_13 (fun v4 h => ?_)
  refine x_isub d_M_size_14 ?_
  cases h
  exact x_iret rfl d_M_size_15
theorem s_M_size : ∀ (d : Nat) (p0 : Option Nat) (p1 : Int32) (S : xS) (z : Int32 × xS), f_M_size d p0 p1 S = some z → ∀ (l : Launch) (D : xD), xMet l m_M_size D d [.inr (.inr p0), .inl p1] S (cvI z) := by
  intro d
  induction d with
  | zero =>
    intro p0 p1 S z h
    cases h
  | succ d ih =>
    intro p0 p1 S z h l D
    exact x_ofV rfl (by decide) (Nat.le_of_ble_eq_true rfl) (te_M_size  p0 p1 S z h)
set_option maxRecDepth 100000 in
set_option maxHeartbeats 4000000 in
theorem tb_M_isPlace_25 {D : xD} {d : Nat} {S0 : xS} : ∀ (y0 : Int32) (S : xS) (z : Int32 × xS), b_M_isPlace_25 d y0 S = some z → V m_M_isPlace D (d + 1) S0 (cvI z) 25 [] [.int y0] S := by
  intro y0 S z h
  unfold b_M_isPlace_25 at h
  exact x_zretI h rfl d_M_isPlace_25
set_option maxRecDepth 100000 in
set_option maxHeartbeats 4000000 in
theorem tb_M_isPlace_24 {D : xD} {d : Nat} {S0 : xS} : ∀  (S : xS) (z : Int32 × xS), b_M_isPlace_24 d  S = some z → V m_M_isPlace D (d + 1) S0 (cvI z) 24 [] [] S := by
  intro  S z h
  unfold b_M_isPlace_24 at h
  refine x_iconst (v := 0) d_M_isPlace_24 (by decide) ?_
  refine x_ls [] rfl ?_
  exact tb_M_isPlace_25 0 S _ h
set_option maxRecDepth 100000 in
set_option maxHeartbeats 4000000 in
theorem te_M_isPlace {D : xD} {d : Nat} {S0 : xS} : ∀ (p0 : Option Nat) (p1 : Int32) (p2 : Int32) (S : xS) (z : Int32 × xS), e_M_isPlace d p0 p1 p2 S = some z → V m_M_isPlace D (d + 1) S0 (cvI z) 0 [(0, .inr (.inr p0)), (1, .inl p1), (2, .inl p2)] [] S := by
  intro p0 p1 p2 S z h
  unfold e_M_isPlace at h
  refine x_iload_n 1 d_M_isPlace_0 rfl rfl ?_
  refine x_callS' (M' := m_M_isText) (ax := [.inl p1]) (cv := cvI) (host := none) (st := []) h (fun q h l => s_M_isText d p1 S q h l D) rfl d_M_isPlace_1 wm_M_32 wc_M_isText rfl (Nat.le_of_ble_eq_true rfl) (fun q1 h => ?_)
  show V _ _ _ _ _ _ _ (.int q1.1 :: []) _
  refine x_if_eq (tgt := 24) d_M_isPlace_4 (by decide) h (fun h => ?_) (fun h => ?_)
  · refine x_ls [] rfl ?_
    exact tb_M_isPlace_24 q1.2 _ h
  · refine x_iload_n 2 d_M_isPlace_7 rfl rfl ?_
    refine x_if_lt (tgt := 24) d_M_isPlace_8 (by decide) h (fun h => ?_) (fun h => ?_)
    · refine x_ls [] rfl ?_
      exact tb_M_isPlace_24 q1.2 _ h
    · refine x_iload_n 2 d_M_isPlace_11 rfl rfl ?_
      refine x_aload_n 0 d_M_isPlace_12 rfl rfl ?_
      refine x_iload_n 1 d_M_isPlace_13 rfl rfl ?_
      refine x_callV' (M' := m_M_size) (ax := [.inl p1]) (cv := cvI) (host := none) (st := [.int p2]) h (fun q h l => s_M_size d p0 p1 q1.2 q h l D) hc_5 rfl d_M_isPlace_14 wm_M_36 wc_M_size rfl (Nat.le_of_ble_eq_true rfl) (fun q2 h => ?_)
      show V _ _ _ _ _ _ _ (.int q2.1 :: .int p2 :: []) _
      refine x_icmp_gt (tgt := 24) d_M_isPlace_17 (by decide) h (fun h => ?_) (fun h => ?_)
      · refine x_ls [] rfl ?_
        exact tb_M_isPlace_24 q2.2 _ h
      · refine x_iconst (v := 1) d_M_isPlace_20 (by decide) ?_
        refine x_goto (tgt := 25) d_M_isPlace_21 (by decide) ?_
        refine x_ls [] rfl ?_
        exact tb_M_isPlace_25 1 q2.2 _ h
theorem s_M_isPlace : ∀ (d : Nat) (p0 : Option Nat) (p1 : Int32) (p2 : Int32) (S : xS) (z : Int32 × xS), f_M_isPlace d p0 p1 p2 S = some z → ∀ (l : Launch) (D : xD), xMet l m_M_isPlace D d [.inr (.inr p0), .inl p1, .inl p2] S (cvI z) := by
  intro d
  induction d with
  | zero =>
    intro p0 p1 p2 S z h
    cases h
  | succ d ih =>
    intro p0 p1 p2 S z h l D
    exact x_ofV rfl (by decide) (Nat.le_of_ble_eq_true rfl) (te_M_isPlace  p0 p1 p2 S z h)
set_option maxRecDepth 100000 in
set_option maxHeartbeats 4000000 in
theorem tb_M_isRange_29 {D : xD} {d : Nat} {S0 : xS} : ∀ (y0 : Int32) (S : xS) (z : Int32 × xS), b_M_isRange_29 d y0 S = some z → V m_M_isRange D (d + 1) S0 (cvI z) 29 [] [.int y0] S := by
  intro y0 S z h
  unfold b_M_isRange_29 at h
  exact x_zretI h rfl d_M_isRange_29
set_option maxRecDepth 100000 in
set_option maxHeartbeats 4000000 in
theorem tb_M_isRange_28 {D : xD} {d : Nat} {S0 : xS} : ∀  (S : xS) (z : Int32 × xS), b_M_isRange_28 d  S = some z → V m_M_isRange D (d + 1) S0 (cvI z) 28 [] [] S := by
  intro  S z h
  unfold b_M_isRange_28 at h
  refine x_iconst (v := 0) d_M_isRange_28 (by decide) ?_
  refine x_ls [] rfl ?_
  exact tb_M_isRange_29 0 S _ h
set_option maxRecDepth 100000 in
set_option maxHeartbeats 4000000 in
theorem te_M_isRange {D : xD} {d : Nat} {S0 : xS} : ∀ (p0 : Option Nat) (p1 : Int32) (p2 : Int32) (p3 : Int32) (S : xS) (z : Int32 × xS), e_M_isRange d p0 p1 p2 p3 S = some z → V m_M_isRange D (d + 1) S0 (cvI z) 0 [(0, .inr (.inr p0)), (1, .inl p1), (2, .inl p2), (3, .inl p3)] [] S := by
  intro p0 p1 p2 p3 S z h
  unfold e_M_isRange at h
  refine x_aload_n 0 d_M_isRange_0 rfl rfl ?_
  refine x_iload_n 1 d_M_isRange_1 rfl rfl ?_
  refine x_iload_n 2 d_M_isRange_2 rfl rfl ?_
  refine x_callV' (M' := m_M_isPlace) (ax := [.inl p1, .inl p2]) (cv := cvI) (host := none) (st := []) h (fun q h l => s_M_isPlace d p0 p1 p2 S q h l D) hc_5 rfl d_M_isRange_3 wm_M_40 wc_M_isPlace rfl (Nat.le_of_ble_eq_true rfl) (fun q1 h => ?_)
  show V _ _ _ _ _ _ _ (.int q1.1 :: []) _
  refine x_if_eq (tgt := 28) d_M_isRange_6 (by decide) h (fun h => ?_) (fun h => ?_)
  · refine x_ls [] rfl ?_
    exact tb_M_isRange_28 q1.2 _ h
  · refine x_iload_n 3 d_M_isRange_9 rfl rfl ?_
    refine x_if_lt (tgt := 28) d_M_isRange_10 (by decide) h (fun h => ?_) (fun h => ?_)
    · refine x_ls [] rfl ?_
      exact tb_M_isRange_28 q1.2 _ h
    · refine x_iload_n 3 d_M_isRange_13 rfl rfl ?_
      refine x_aload_n 0 d_M_isRange_14 rfl rfl ?_
      refine x_iload_n 1 d_M_isRange_15 rfl rfl ?_
      refine x_callV' (M' := m_M_size) (ax := [.inl p1]) (cv := cvI) (host := none) (st := [.int p3]) h (fun q h l => s_M_size d p0 p1 q1.2 q h l D) hc_5 rfl d_M_isRange_16 wm_M_36 wc_M_size rfl (Nat.le_of_ble_eq_true rfl) (fun q2 h => ?_)
      show V _ _ _ _ _ _ _ (.int q2.1 :: .int p3 :: []) _
      refine x_iload_n 2 d_M_isRange_19 rfl rfl ?_
      refine x_isub d_M_isRange_20 ?_
      refine x_icmp_gt (tgt := 28) d_M_isRange_21 (by decide) h (fun h => ?_) (fun h => ?_)
      · refine x_ls [] rfl ?_
        exact tb_M_isRange_28 q2.2 _ h
      · refine x_iconst (v := 1) d_M_isRange_24 (by decide) ?_
        refine x_goto (tgt := 29) d_M_isRange_25 (by decide) ?_
        refine x_ls [] rfl ?_
        exact tb_M_isRange_29 1 q2.2 _ h
theorem s_M_isRange : ∀ (d : Nat) (p0 : Option Nat) (p1 : Int32) (p2 : Int32) (p3 : Int32) (S : xS) (z : Int32 × xS), f_M_isRange d p0 p1 p2 p3 S = some z → ∀ (l : Launch) (D : xD), xMet l m_M_isRange D d [.inr (.inr p0), .inl p1, .inl p2, .inl p3] S (cvI z) := by
  intro d
  induction d with
  | zero =>
    intro p0 p1 p2 p3 S z h
    cases h
  | succ d ih =>
    intro p0 p1 p2 p3 S z h l D
    exact x_ofV rfl (by decide) (Nat.le_of_ble_eq_true rfl) (te_M_isRange  p0 p1 p2 p3 S z h)
set_option maxRecDepth 100000 in
set_option maxHeartbeats 4000000 in
theorem tb_M_write_78 {D : xD} {d : Nat} {S0 : xS} {k78 : Option Nat → Int64 → Int32 → Int32 → xS → Option (Int32 × xS)} (hk78 : ∀ (x0 : Option Nat) (x1 : Int64) (x3 : Int32) (x4 : Int32)  (S : xS) (z : Int32 × xS), k78 x0 x1 x3 x4 S = some z → V m_M_write D (d + 1) S0 (cvI z) 78 [(0, .inr (.inr x0)), (1, .inr (.inl x1)), (3, .inl x3), (4, .inl x4)] [] S) : ∀ (x0 : Option Nat) (x1 : Int64) (x3 : Int32) (x4 : Int32) (S : xS) (z : Int32 × xS), b_M_write_78 d k78 x0 x1 x3 x4 S = some z → V m_M_write D (d + 1) S0 (cvI z) 78 [(0, .inr (.inr x0)), (1, .inr (.inl x1)), (3, .inl x3), (4, .inl x4)] [] S := by
  intro x0 x1 x3 x4 S z h
  unfold b_M_write_78 at h
  refine x_iload 3 d_M_write_78 rfl ?_
  refine x_iload_n 2 d_M_write_80 rfl rfl ?_
  refine x_icmp_ge (tgt := 114) d_M_write_81 (by decide) h (fun h => ?_) (fun h => ?_)
  · refine x_aload_n 0 d_M_write_114 rfl rfl ?_
    refine x_dup d_M_write_115 (xcat _) ?_
    refine x_getI (host := none) h hc_5 hi_5 (by decide) wf_M_46 d_M_write_116 (fun v1 h => ?_)
    refine x_iload_n 2 d_M_write_119 rfl rfl ?_
    refine x_iadd d_M_write_120 ?_
    refine x_put (host := none) h hc_5 hi_5 tyX_5 ht_5 hn_5 (by decide) rfl rfl rfl wf_M_46 d_M_write_121 (fun S2 h => ?_)
    refine x_aload_n 0 d_M_write_124 rfl rfl ?_
    refine x_getI (host := none) h hc_5 hi_5 (by decide) wf_M_46 d_M_write_125 (fun v3 h => ?_)
    refine x_iload_n 2 d_M_write_128 rfl rfl ?_
    refine x_isub d_M_write_129 ?_
    cases h
    exact x_iret rfl d_M_write_130
  · refine x_aload_n 0 d_M_write_84 rfl rfl ?_
    refine x_getR (host := none) h hc_5 hi_5 (by decide) wf_M_7 d_M_write_85 (fun v4 h => ?_)
    refine x_aload_n 0 d_M_write_88 rfl rfl ?_
    refine x_getI (host := none) h hc_5 hi_5 (by decide) wf_M_46 d_M_write_89 (fun v5 h => ?_)
    refine x_iload 3 d_M_write_92 rfl ?_
    refine x_iadd d_M_write_94 ?_
    refine x_lload_n 1 d_M_write_95 rfl rfl ?_
    refine x_bipush (v := 8) d_M_write_96 (by decide) ?_
    refine x_iload 3 d_M_write_98 rfl ?_
    refine x_imul d_M_write_100 ?_
    refine x_lshr d_M_write_101 ?_
    refine x_ldc2 (v := 255) d_M_write_102 wl_M_44 ?_
    refine x_land d_M_write_105 ?_
    refine x_l2i d_M_write_106 ?_
    refine x_iast h ha_3 d_M_write_107 (fun S6 h => ?_)
    refine x_iinc (v := 1) (lv' := [(4, .inl (x4 + 1)), (0, .inr (.inr x0)), (1, .inr (.inl x1)), (3, .inl x3)]) 3 d_M_write_108 rfl (by decide) (by decide) rfl ?_
    refine x_goto (tgt := 78) d_M_write_111 (by decide) ?_
    refine x_ls [1, 2, 3, 0] rfl ?_
    exact hk78 x0 x1 x3 (x4 + 1) S6 _ h
theorem tl_M_write_78 {D : xD} {d : Nat} {S0 : xS} : ∀ (n : Nat) (x0 : Option Nat) (x1 : Int64) (x3 : Int32) (x4 : Int32) (S : xS) (z : Int32 × xS), l_M_write_78 d n x0 x1 x3 x4 S = some z → V m_M_write D (d + 1) S0 (cvI z) 78 [(0, .inr (.inr x0)), (1, .inr (.inl x1)), (3, .inl x3), (4, .inl x4)] [] S := by
  intro n
  induction n with
  | zero =>
    intro x0 x1 x3 x4 S z h
    cases h
  | succ n ih =>
    intro x0 x1 x3 x4 S z h
    exact tb_M_write_78  ih x0 x1 x3 x4 S z h
set_option maxRecDepth 100000 in
set_option maxHeartbeats 4000000 in
theorem tb_M_write_57 {D : xD} {d : Nat} {S0 : xS} : ∀ (x0 : Option Nat) (x1 : Int64) (x3 : Int32) (S : xS) (z : Int32 × xS), b_M_write_57 d x0 x1 x3 S = some z → V m_M_write D (d + 1) S0 (cvI z) 57 [(0, .inr (.inr x0)), (1, .inr (.inl x1)), (3, .inl x3)] [] S := by
  intro x0 x1 x3 S z h
  unfold b_M_write_57 at h
  refine x_aload_n 0 d_M_write_57 rfl rfl ?_
  refine x_getI (host := none) h hc_5 hi_5 (by decide) wf_M_46 d_M_write_58 (fun v1 h => ?_)
  refine x_iload_n 2 d_M_write_61 rfl rfl ?_
  refine x_iadd d_M_write_62 ?_
  refine x_sipush (v := 2048) d_M_write_63 (by decide) ?_
  refine x_icmp_le (tgt := 75) d_M_write_66 (by decide) h (fun h => ?_) (fun h => ?_)
  · refine x_iconst (v := 0) d_M_write_75 (by decide) ?_
    refine x_istore (lv' := [(4, .inl 0), (0, .inr (.inr x0)), (1, .inr (.inl x1)), (3, .inl x3)]) d_M_write_76 (by decide) rfl ?_
    refine x_ls [1, 2, 3, 0] rfl ?_
    exact tl_M_write_78 xN x0 x1 x3 0 S _ h
  · refine x_aload_n 0 d_M_write_69 rfl rfl ?_
    refine x_iconst (v := 2) d_M_write_70 (by decide) ?_
    refine x_callV' (M' := m_M_raise) (ax := [.inl 2]) (cv := cvI) (host := none) (st := []) h (fun q h l => s_M_raise d x0 2 S q h l D) hc_5 rfl d_M_write_71 wm_M_49 wc_M_raise rfl (Nat.le_of_ble_eq_true rfl) (fun q2 h => ?_)
    show V _ _ _ _ _ _ _ (.int q2.1 :: []) _
    cases h
    exact x_iret rfl d_M_write_74
set_option maxRecDepth 100000 in
set_option maxHeartbeats 4000000 in
theorem tb_M_write_30 {D : xD} {d : Nat} {S0 : xS} {k30 : Option Nat → Int64 → Int32 → xS → Option (Int32 × xS)} (hk30 : ∀ (x0 : Option Nat) (x1 : Int64) (x3 : Int32)  (S : xS) (z : Int32 × xS), k30 x0 x1 x3 S = some z → V m_M_write D (d + 1) S0 (cvI z) 30 [(0, .inr (.inr x0)), (1, .inr (.inl x1)), (3, .inl x3)] [] S) : ∀ (x0 : Option Nat) (x1 : Int64) (x3 : Int32) (S : xS) (z : Int32 × xS), b_M_write_30 d k30 x0 x1 x3 S = some z → V m_M_write D (d + 1) S0 (cvI z) 30 [(0, .inr (.inr x0)), (1, .inr (.inl x1)), (3, .inl x3)] [] S := by
  intro x0 x1 x3 S z h
  unfold b_M_write_30 at h
  refine x_iload_n 2 d_M_write_30 rfl rfl ?_
  refine x_bipush (v := 8) d_M_write_31 (by decide) ?_
  refine x_icmp_ge (tgt := 57) d_M_write_33 (by decide) h (fun h => ?_) (fun h => ?_)
  · refine x_ls [0, 1, 2] rfl ?_
    exact tb_M_write_57 x0 x1 x3 S _ h
  · refine x_lload_n 1 d_M_write_36 rfl rfl ?_
    refine x_bipush (v := 8) d_M_write_37 (by decide) ?_
    refine x_iload_n 2 d_M_write_39 rfl rfl ?_
    refine x_imul d_M_write_40 ?_
    refine x_lshr d_M_write_41 ?_
    refine x_ldc2 (v := 255) d_M_write_42 wl_M_44 ?_
    refine x_land d_M_write_45 ?_
    refine x_lconst (v := 0) d_M_write_46 (by decide) ?_
    refine x_lcmp d_M_write_47 ?_
    refine x_if_eq (tgt := 57) d_M_write_48 (by decide) h (fun h => ?_) (fun h => ?_)
    · refine x_ls [0, 1, 2] rfl ?_
      exact tb_M_write_57 x0 x1 x3 S _ h
    · refine x_iinc (v := 1) (lv' := [(3, .inl (x3 + 1)), (0, .inr (.inr x0)), (1, .inr (.inl x1))]) 2 d_M_write_51 rfl (by decide) (by decide) rfl ?_
      refine x_goto (tgt := 30) d_M_write_54 (by decide) ?_
      refine x_ls [1, 2, 0] rfl ?_
      exact hk30 x0 x1 (x3 + 1) S _ h
theorem tl_M_write_30 {D : xD} {d : Nat} {S0 : xS} : ∀ (n : Nat) (x0 : Option Nat) (x1 : Int64) (x3 : Int32) (S : xS) (z : Int32 × xS), l_M_write_30 d n x0 x1 x3 S = some z → V m_M_write D (d + 1) S0 (cvI z) 30 [(0, .inr (.inr x0)), (1, .inr (.inl x1)), (3, .inl x3)] [] S := by
  intro n
  induction n with
  | zero =>
    intro x0 x1 x3 S z h
    cases h
  | succ n ih =>
    intro x0 x1 x3 S z h
    exact tb_M_write_30  ih x0 x1 x3 S z h
set_option maxRecDepth 100000 in
set_option maxHeartbeats 4000000 in
theorem tb_M_write_16 {D : xD} {d : Nat} {S0 : xS} : ∀ (x0 : Option Nat) (x1 : Int64) (y0 : Int32) (y1 : Option Nat) (S : xS) (z : Int32 × xS), b_M_write_16 d x0 x1 y0 y1 S = some z → V m_M_write D (d + 1) S0 (cvI z) 16 [(0, .inr (.inr x0)), (1, .inr (.inl x1))] [.int y0, va_rf y1] S := by
  intro x0 x1 y0 y1 S z h
  unfold b_M_write_16 at h
  refine x_put (host := none) h hc_5 hi_5 tyX_5 ht_5 hn_5 (by decide) rfl rfl rfl wf_M_28 d_M_write_16 (fun S1 h => ?_)
  refine x_aload_n 0 d_M_write_19 rfl rfl ?_
  refine x_getI (host := none) h hc_5 hi_5 (by decide) wf_M_28 d_M_write_20 (fun v2 h => ?_)
  refine x_if_le (tgt := 28) d_M_write_23 (by decide) h (fun h => ?_) (fun h => ?_)
  · refine x_iconst (v := 0) d_M_write_28 (by decide) ?_
    refine x_istore_n (lv' := [(3, .inl 0), (0, .inr (.inr x0)), (1, .inr (.inl x1))]) d_M_write_29 rfl (by decide) rfl ?_
    refine x_ls [1, 2, 0] rfl ?_
    exact tl_M_write_30 xN x0 x1 0 S1 _ h
  · refine x_iconst (v := 0) d_M_write_26 (by decide) ?_
    cases h
    exact x_iret rfl d_M_write_27
set_option maxRecDepth 100000 in
set_option maxHeartbeats 4000000 in
theorem te_M_write {D : xD} {d : Nat} {S0 : xS} : ∀ (p0 : Option Nat) (p1 : Int64) (S : xS) (z : Int32 × xS), e_M_write d p0 p1 S = some z → V m_M_write D (d + 1) S0 (cvI z) 0 [(0, .inr (.inr p0)), (1, .inr (.inl p1))] [] S := by
  intro p0 p1 S z h
  unfold e_M_write at h
  refine x_aload_n 0 d_M_write_0 rfl rfl ?_
  refine x_lload_n 1 d_M_write_1 rfl rfl ?_
  refine x_ldc2 (v := 255) d_M_write_2 wl_M_44 ?_
  refine x_land d_M_write_5 ?_
  refine x_lconst (v := 0) d_M_write_6 (by decide) ?_
  refine x_lcmp d_M_write_7 ?_
  refine x_if_ne (tgt := 15) d_M_write_8 (by decide) h (fun h => ?_) (fun h => ?_)
  · refine x_iconst (v := 0) d_M_write_15 (by decide) ?_
    refine x_ls [0, 1] rfl ?_
    exact tb_M_write_16 p0 p1 0 p0 S _ h
  · refine x_iconst (v := 1) d_M_write_11 (by decide) ?_
    refine x_goto (tgt := 16) d_M_write_12 (by decide) ?_
    refine x_ls [0, 1] rfl ?_
    exact tb_M_write_16 p0 p1 1 p0 S _ h
theorem s_M_write : ∀ (d : Nat) (p0 : Option Nat) (p1 : Int64) (S : xS) (z : Int32 × xS), f_M_write d p0 p1 S = some z → ∀ (l : Launch) (D : xD), xMet l m_M_write D d [.inr (.inr p0), .inr (.inl p1)] S (cvI z) := by
  intro d
  induction d with
  | zero =>
    intro p0 p1 S z h
    cases h
  | succ d ih =>
    intro p0 p1 S z h l D
    exact x_ofV rfl (by decide) (Nat.le_of_ble_eq_true rfl) (te_M_write  p0 p1 S z h)
set_option maxRecDepth 100000 in
set_option maxHeartbeats 4000000 in
theorem tb_M_keep_3 {D : xD} {d : Nat} {S0 : xS} {k3 : Option Nat → Int32 → Int32 → Int32 → Int32 → xS → Option (Unit × xS)} (hk3 : ∀ (x0 : Option Nat) (x1 : Int32) (x2 : Int32) (x3 : Int32) (x4 : Int32)  (S : xS) (z : Unit × xS), k3 x0 x1 x2 x3 x4 S = some z → V m_M_keep D (d + 1) S0 (cvV z) 3 [(0, .inr (.inr x0)), (1, .inl x1), (2, .inl x2), (3, .inl x3), (4, .inl x4)] [] S) : ∀ (x0 : Option Nat) (x1 : Int32) (x2 : Int32) (x3 : Int32) (x4 : Int32) (S : xS) (z : Unit × xS), b_M_keep_3 d k3 x0 x1 x2 x3 x4 S = some z → V m_M_keep D (d + 1) S0 (cvV z) 3 [(0, .inr (.inr x0)), (1, .inl x1), (2, .inl x2), (3, .inl x3), (4, .inl x4)] [] S := by
  intro x0 x1 x2 x3 x4 S z h
  unfold b_M_keep_3 at h
  refine x_iload 4 d_M_keep_3 rfl ?_
  refine x_iload_n 3 d_M_keep_5 rfl rfl ?_
  refine x_icmp_ge (tgt := 61) d_M_keep_6 (by decide) h (fun h => ?_) (fun h => ?_)
  · cases h
    exact x_vret rfl d_M_keep_61
  · refine x_aload_n 0 d_M_keep_9 rfl rfl ?_
    refine x_getR (host := none) h hc_5 hi_5 (by decide) wf_M_22 d_M_keep_10 (fun v1 h => ?_)
    refine x_iload 4 d_M_keep_13 rfl ?_
    refine x_aload_n 0 d_M_keep_15 rfl rfl ?_
    refine x_getR (host := none) h hc_5 hi_5 (by decide) wf_M_16 d_M_keep_16 (fun v2 h => ?_)
    refine x_aload_n 0 d_M_keep_19 rfl rfl ?_
    refine x_getR (host := none) h hc_5 hi_5 (by decide) wf_M_13 d_M_keep_20 (fun v3 h => ?_)
    refine x_iload_n 1 d_M_keep_23 rfl rfl ?_
    refine x_iald h ha_3 d_M_keep_24 (fun v4 h => ?_)
    refine x_iload_n 2 d_M_keep_25 rfl rfl ?_
    refine x_iadd d_M_keep_26 ?_
    refine x_iload 4 d_M_keep_27 rfl ?_
    refine x_iadd d_M_keep_29 ?_
    refine x_iald h ha_3 d_M_keep_30 (fun v5 h => ?_)
    refine x_iast h ha_3 d_M_keep_31 (fun S6 h => ?_)
    refine x_aload_n 0 d_M_keep_32 rfl rfl ?_
    refine x_getR (host := none) h hc_5 hi_5 (by decide) wf_M_25 d_M_keep_33 (fun v7 h => ?_)
    refine x_iload 4 d_M_keep_36 rfl ?_
    refine x_aload_n 0 d_M_keep_38 rfl rfl ?_
    refine x_getR (host := none) h hc_5 hi_5 (by decide) wf_M_19 d_M_keep_39 (fun v8 h => ?_)
    refine x_aload_n 0 d_M_keep_42 rfl rfl ?_
    refine x_getR (host := none) h hc_5 hi_5 (by decide) wf_M_13 d_M_keep_43 (fun v9 h => ?_)
    refine x_iload_n 1 d_M_keep_46 rfl rfl ?_
    refine x_iald h ha_3 d_M_keep_47 (fun v10 h => ?_)
    refine x_iload_n 2 d_M_keep_48 rfl rfl ?_
    refine x_iadd d_M_keep_49 ?_
    refine x_iload 4 d_M_keep_50 rfl ?_
    refine x_iadd d_M_keep_52 ?_
    refine x_iald h ha_3 d_M_keep_53 (fun v11 h => ?_)
    refine x_iast h ha_3 d_M_keep_54 (fun S12 h => ?_)
    refine x_iinc (v := 1) (lv' := [(4, .inl (x4 + 1)), (0, .inr (.inr x0)), (1, .inl x1), (2, .inl x2), (3, .inl x3)]) 4 d_M_keep_55 rfl (by decide) (by decide) rfl ?_
    refine x_goto (tgt := 3) d_M_keep_58 (by decide) ?_
    refine x_ls [1, 2, 3, 4, 0] rfl ?_
    exact hk3 x0 x1 x2 x3 (x4 + 1) S12 _ h
theorem tl_M_keep_3 {D : xD} {d : Nat} {S0 : xS} : ∀ (n : Nat) (x0 : Option Nat) (x1 : Int32) (x2 : Int32) (x3 : Int32) (x4 : Int32) (S : xS) (z : Unit × xS), l_M_keep_3 d n x0 x1 x2 x3 x4 S = some z → V m_M_keep D (d + 1) S0 (cvV z) 3 [(0, .inr (.inr x0)), (1, .inl x1), (2, .inl x2), (3, .inl x3), (4, .inl x4)] [] S := by
  intro n
  induction n with
  | zero =>
    intro x0 x1 x2 x3 x4 S z h
    cases h
  | succ n ih =>
    intro x0 x1 x2 x3 x4 S z h
    exact tb_M_keep_3  ih x0 x1 x2 x3 x4 S z h
set_option maxRecDepth 100000 in
set_option maxHeartbeats 4000000 in
theorem te_M_keep {D : xD} {d : Nat} {S0 : xS} : ∀ (p0 : Option Nat) (p1 : Int32) (p2 : Int32) (p3 : Int32) (S : xS) (z : Unit × xS), e_M_keep d p0 p1 p2 p3 S = some z → V m_M_keep D (d + 1) S0 (cvV z) 0 [(0, .inr (.inr p0)), (1, .inl p1), (2, .inl p2), (3, .inl p3)] [] S := by
  intro p0 p1 p2 p3 S z h
  unfold e_M_keep at h
  refine x_iconst (v := 0) d_M_keep_0 (by decide) ?_
  refine x_istore (lv' := [(4, .inl 0), (0, .inr (.inr p0)), (1, .inl p1), (2, .inl p2), (3, .inl p3)]) d_M_keep_1 (by decide) rfl ?_
  refine x_ls [1, 2, 3, 4, 0] rfl ?_
  exact tl_M_keep_3 xN p0 p1 p2 p3 0 S _ h
theorem s_M_keep : ∀ (d : Nat) (p0 : Option Nat) (p1 : Int32) (p2 : Int32) (p3 : Int32) (S : xS) (z : Unit × xS), f_M_keep d p0 p1 p2 p3 S = some z → ∀ (l : Launch) (D : xD), xMet l m_M_keep D d [.inr (.inr p0), .inl p1, .inl p2, .inl p3] S (cvV z) := by
  intro d
  induction d with
  | zero =>
    intro p0 p1 p2 p3 S z h
    cases h
  | succ d ih =>
    intro p0 p1 p2 p3 S z h l D
    exact x_ofV rfl (by decide) (Nat.le_of_ble_eq_true rfl) (te_M_keep  p0 p1 p2 p3 S z h)
set_option maxRecDepth 100000 in
set_option maxHeartbeats 4000000 in
theorem tb_M_remove_67 {D : xD} {d : Nat} {S0 : xS} {k67 : Option Nat → Int32 → Int32 → xS → Option (Unit × xS)} (hk67 : ∀ (x0 : Option Nat) (x3 : Int32) (x4 : Int32)  (S : xS) (z : Unit × xS), k67 x0 x3 x4 S = some z → V m_M_remove D (d + 1) S0 (cvV z) 67 [(0, .inr (.inr x0)), (3, .inl x3), (4, .inl x4)] [] S) : ∀ (x0 : Option Nat) (x3 : Int32) (x4 : Int32) (S : xS) (z : Unit × xS), b_M_remove_67 d k67 x0 x3 x4 S = some z → V m_M_remove D (d + 1) S0 (cvV z) 67 [(0, .inr (.inr x0)), (3, .inl x3), (4, .inl x4)] [] S := by
  intro x0 x3 x4 S z h
  unfold b_M_remove_67 at h
  refine x_iload 2 d_M_remove_67 rfl ?_
  refine x_bipush (v := 16) d_M_remove_69 (by decide) ?_
  refine x_icmp_gt (tgt := 91) d_M_remove_71 (by decide) h (fun h => ?_) (fun h => ?_)
  · cases h
    exact x_vret rfl d_M_remove_91
  · refine x_aload_n 0 d_M_remove_74 rfl rfl ?_
    refine x_getR (host := none) h hc_5 hi_5 (by decide) wf_M_13 d_M_remove_75 (fun v1 h => ?_)
    refine x_iload 2 d_M_remove_78 rfl ?_
    refine x_dup2 d_M_remove_80 rfl (xcat _) ?_
    refine x_iald h ha_3 d_M_remove_81 (fun v2 h => ?_)
    refine x_iload_n 1 d_M_remove_82 rfl rfl ?_
    refine x_isub d_M_remove_83 ?_
    refine x_iast h ha_3 d_M_remove_84 (fun S3 h => ?_)
    refine x_iinc (v := 1) (lv' := [(4, .inl (x4 + 1)), (0, .inr (.inr x0)), (3, .inl x3)]) 2 d_M_remove_85 rfl (by decide) (by decide) rfl ?_
    refine x_goto (tgt := 67) d_M_remove_88 (by decide) ?_
    refine x_ls [1, 2, 0] rfl ?_
    exact hk67 x0 x3 (x4 + 1) S3 _ h
theorem tl_M_remove_67 {D : xD} {d : Nat} {S0 : xS} : ∀ (n : Nat) (x0 : Option Nat) (x3 : Int32) (x4 : Int32) (S : xS) (z : Unit × xS), l_M_remove_67 d n x0 x3 x4 S = some z → V m_M_remove D (d + 1) S0 (cvV z) 67 [(0, .inr (.inr x0)), (3, .inl x3), (4, .inl x4)] [] S := by
  intro n
  induction n with
  | zero =>
    intro x0 x3 x4 S z h
    cases h
  | succ n ih =>
    intro x0 x3 x4 S z h
    exact tb_M_remove_67  ih x0 x3 x4 S z h
set_option maxRecDepth 100000 in
set_option maxHeartbeats 4000000 in
theorem tb_M_remove_10 {D : xD} {d : Nat} {S0 : xS} {k10 : Option Nat → Int32 → Int32 → Int32 → xS → Option (Unit × xS)} (hk10 : ∀ (x0 : Option Nat) (x1 : Int32) (x3 : Int32) (x4 : Int32)  (S : xS) (z : Unit × xS), k10 x0 x1 x3 x4 S = some z → V m_M_remove D (d + 1) S0 (cvV z) 10 [(0, .inr (.inr x0)), (1, .inl x1), (3, .inl x3), (4, .inl x4)] [] S) : ∀ (x0 : Option Nat) (x1 : Int32) (x3 : Int32) (x4 : Int32) (S : xS) (z : Unit × xS), b_M_remove_10 d k10 x0 x1 x3 x4 S = some z → V m_M_remove D (d + 1) S0 (cvV z) 10 [(0, .inr (.inr x0)), (1, .inl x1), (3, .inl x3), (4, .inl x4)] [] S := by
  intro x0 x1 x3 x4 S z h
  unfold b_M_remove_10 at h
  refine x_iload 3 d_M_remove_10 rfl ?_
  refine x_aload_n 0 d_M_remove_12 rfl rfl ?_
  refine x_getR (host := none) h hc_5 hi_5 (by decide) wf_M_13 d_M_remove_13 (fun v1 h => ?_)
  refine x_bipush (v := 16) d_M_remove_16 (by decide) ?_
  refine x_iald h ha_3 d_M_remove_18 (fun v2 h => ?_)
  refine x_iload_n 2 d_M_remove_19 rfl rfl ?_
  refine x_isub d_M_remove_20 ?_
  refine x_icmp_ge (tgt := 62) d_M_remove_21 (by decide) h (fun h => ?_) (fun h => ?_)
  · refine x_iload_n 1 d_M_remove_62 rfl rfl ?_
    refine x_iconst (v := 1) d_M_remove_63 (by decide) ?_
    refine x_iadd d_M_remove_64 ?_
    refine x_istore (lv' := [(4, .inl (x1 + 1)), (0, .inr (.inr x0)), (1, .inl x1), (3, .inl x3)]) d_M_remove_65 (by decide) rfl ?_
    refine x_ls [1, 3, 0] rfl ?_
    exact tl_M_remove_67 xN x0 x3 (x1 + 1) S _ h
  · refine x_aload_n 0 d_M_remove_24 rfl rfl ?_
    refine x_getR (host := none) h hc_5 hi_5 (by decide) wf_M_16 d_M_remove_25 (fun v3 h => ?_)
    refine x_iload 3 d_M_remove_28 rfl ?_
    refine x_aload_n 0 d_M_remove_30 rfl rfl ?_
    refine x_getR (host := none) h hc_5 hi_5 (by decide) wf_M_16 d_M_remove_31 (fun v4 h => ?_)
    refine x_iload 3 d_M_remove_34 rfl ?_
    refine x_iload_n 2 d_M_remove_36 rfl rfl ?_
    refine x_iadd d_M_remove_37 ?_
    refine x_iald h ha_3 d_M_remove_38 (fun v5 h => ?_)
    refine x_iast h ha_3 d_M_remove_39 (fun S6 h => ?_)
    refine x_aload_n 0 d_M_remove_40 rfl rfl ?_
    refine x_getR (host := none) h hc_5 hi_5 (by decide) wf_M_19 d_M_remove_41 (fun v7 h => ?_)
    refine x_iload 3 d_M_remove_44 rfl ?_
    refine x_aload_n 0 d_M_remove_46 rfl rfl ?_
    refine x_getR (host := none) h hc_5 hi_5 (by decide) wf_M_19 d_M_remove_47 (fun v8 h => ?_)
    refine x_iload 3 d_M_remove_50 rfl ?_
    refine x_iload_n 2 d_M_remove_52 rfl rfl ?_
    refine x_iadd d_M_remove_53 ?_
    refine x_iald h ha_3 d_M_remove_54 (fun v9 h => ?_)
    refine x_iast h ha_3 d_M_remove_55 (fun S10 h => ?_)
    refine x_iinc (v := 1) (lv' := [(4, .inl (x4 + 1)), (0, .inr (.inr x0)), (1, .inl x1), (3, .inl x3)]) 3 d_M_remove_56 rfl (by decide) (by decide) rfl ?_
    refine x_goto (tgt := 10) d_M_remove_59 (by decide) ?_
    refine x_ls [1, 2, 3, 0] rfl ?_
    exact hk10 x0 x1 x3 (x4 + 1) S10 _ h
theorem tl_M_remove_10 {D : xD} {d : Nat} {S0 : xS} : ∀ (n : Nat) (x0 : Option Nat) (x1 : Int32) (x3 : Int32) (x4 : Int32) (S : xS) (z : Unit × xS), l_M_remove_10 d n x0 x1 x3 x4 S = some z → V m_M_remove D (d + 1) S0 (cvV z) 10 [(0, .inr (.inr x0)), (1, .inl x1), (3, .inl x3), (4, .inl x4)] [] S := by
  intro n
  induction n with
  | zero =>
    intro x0 x1 x3 x4 S z h
    cases h
  | succ n ih =>
    intro x0 x1 x3 x4 S z h
    exact tb_M_remove_10  ih x0 x1 x3 x4 S z h
set_option maxRecDepth 100000 in
set_option maxHeartbeats 4000000 in
theorem te_M_remove {D : xD} {d : Nat} {S0 : xS} : ∀ (p0 : Option Nat) (p1 : Int32) (p2 : Int32) (p3 : Int32) (S : xS) (z : Unit × xS), e_M_remove d p0 p1 p2 p3 S = some z → V m_M_remove D (d + 1) S0 (cvV z) 0 [(0, .inr (.inr p0)), (1, .inl p1), (2, .inl p2), (3, .inl p3)] [] S := by
  intro p0 p1 p2 p3 S z h
  unfold e_M_remove at h
  refine x_aload_n 0 d_M_remove_0 rfl rfl ?_
  refine x_getR (host := none) h hc_5 hi_5 (by decide) wf_M_13 d_M_remove_1 (fun v1 h => ?_)
  refine x_iload_n 1 d_M_remove_4 rfl rfl ?_
  refine x_iald h ha_3 d_M_remove_5 (fun v2 h => ?_)
  refine x_iload_n 2 d_M_remove_6 rfl rfl ?_
  refine x_iadd d_M_remove_7 ?_
  refine x_istore (lv' := [(4, .inl (v2 + p2)), (0, .inr (.inr p0)), (1, .inl p1), (2, .inl p2), (3, .inl p3)]) d_M_remove_8 (by decide) rfl ?_
  refine x_ls [1, 2, 4, 0] rfl ?_
  exact tl_M_remove_10 xN p0 p1 p3 (v2 + p2) S _ h
theorem s_M_remove : ∀ (d : Nat) (p0 : Option Nat) (p1 : Int32) (p2 : Int32) (p3 : Int32) (S : xS) (z : Unit × xS), f_M_remove d p0 p1 p2 p3 S = some z → ∀ (l : Launch) (D : xD), xMet l m_M_remove D d [.inr (.inr p0), .inl p1, .inl p2, .inl p3] S (cvV z) := by
  intro d
  induction d with
  | zero =>
    intro p0 p1 p2 p3 S z h
    cases h
  | succ d ih =>
    intro p0 p1 p2 p3 S z h l D
    exact x_ofV rfl (by decide) (Nat.le_of_ble_eq_true rfl) (te_M_remove  p0 p1 p2 p3 S z h)
set_option maxRecDepth 100000 in
set_option maxHeartbeats 4000000 in
theorem tb_M_insert_120 {D : xD} {d : Nat} {S0 : xS} {k120 : Option Nat → Int32 → Int32 → xS → Option (Unit × xS)} (hk120 : ∀ (x0 : Option Nat) (x3 : Int32) (x5 : Int32)  (S : xS) (z : Unit × xS), k120 x0 x3 x5 S = some z → V m_M_insert D (d + 1) S0 (cvV z) 120 [(0, .inr (.inr x0)), (3, .inl x3), (5, .inl x5)] [] S) : ∀ (x0 : Option Nat) (x3 : Int32) (x5 : Int32) (S : xS) (z : Unit × xS), b_M_insert_120 d k120 x0 x3 x5 S = some z → V m_M_insert D (d + 1) S0 (cvV z) 120 [(0, .inr (.inr x0)), (3, .inl x3), (5, .inl x5)] [] S := by
  intro x0 x3 x5 S z h
  unfold b_M_insert_120 at h
  refine x_iload 2 d_M_insert_120 rfl ?_
  refine x_bipush (v := 16) d_M_insert_122 (by decide) ?_
  refine x_icmp_gt (tgt := 144) d_M_insert_124 (by decide) h (fun h => ?_) (fun h => ?_)
  · cases h
    exact x_vret rfl d_M_insert_144
  · refine x_aload_n 0 d_M_insert_127 rfl rfl ?_
    refine x_getR (host := none) h hc_5 hi_5 (by decide) wf_M_13 d_M_insert_128 (fun v1 h => ?_)
    refine x_iload 2 d_M_insert_131 rfl ?_
    refine x_dup2 d_M_insert_133 rfl (xcat _) ?_
    refine x_iald h ha_3 d_M_insert_134 (fun v2 h => ?_)
    refine x_iload_n 1 d_M_insert_135 rfl rfl ?_
    refine x_iadd d_M_insert_136 ?_
    refine x_iast h ha_3 d_M_insert_137 (fun S3 h => ?_)
    refine x_iinc (v := 1) (lv' := [(5, .inl (x5 + 1)), (0, .inr (.inr x0)), (3, .inl x3)]) 2 d_M_insert_138 rfl (by decide) (by decide) rfl ?_
    refine x_goto (tgt := 120) d_M_insert_141 (by decide) ?_
    refine x_ls [1, 2, 0] rfl ?_
    exact hk120 x0 x3 (x5 + 1) S3 _ h
theorem tl_M_insert_120 {D : xD} {d : Nat} {S0 : xS} : ∀ (n : Nat) (x0 : Option Nat) (x3 : Int32) (x5 : Int32) (S : xS) (z : Unit × xS), l_M_insert_120 d n x0 x3 x5 S = some z → V m_M_insert D (d + 1) S0 (cvV z) 120 [(0, .inr (.inr x0)), (3, .inl x3), (5, .inl x5)] [] S := by
  intro n
  induction n with
  | zero =>
    intro x0 x3 x5 S z h
    cases h
  | succ n ih =>
    intro x0 x3 x5 S z h
    exact tb_M_insert_120  ih x0 x3 x5 S z h
set_option maxRecDepth 100000 in
set_option maxHeartbeats 4000000 in
theorem tb_M_insert_69 {D : xD} {d : Nat} {S0 : xS} {k69 : Option Nat → Int32 → Int32 → Int32 → Int32 → xS → Option (Unit × xS)} (hk69 : ∀ (x0 : Option Nat) (x1 : Int32) (x3 : Int32) (x4 : Int32) (x5 : Int32)  (S : xS) (z : Unit × xS), k69 x0 x1 x3 x4 x5 S = some z → V m_M_insert D (d + 1) S0 (cvV z) 69 [(0, .inr (.inr x0)), (1, .inl x1), (3, .inl x3), (4, .inl x4), (5, .inl x5)] [] S) : ∀ (x0 : Option Nat) (x1 : Int32) (x3 : Int32) (x4 : Int32) (x5 : Int32) (S : xS) (z : Unit × xS), b_M_insert_69 d k69 x0 x1 x3 x4 x5 S = some z → V m_M_insert D (d + 1) S0 (cvV z) 69 [(0, .inr (.inr x0)), (1, .inl x1), (3, .inl x3), (4, .inl x4), (5, .inl x5)] [] S := by
  intro x0 x1 x3 x4 x5 S z h
  unfold b_M_insert_69 at h
  refine x_iload 4 d_M_insert_69 rfl ?_
  refine x_iload_n 2 d_M_insert_71 rfl rfl ?_
  refine x_icmp_ge (tgt := 115) d_M_insert_72 (by decide) h (fun h => ?_) (fun h => ?_)
  · refine x_iload_n 1 d_M_insert_115 rfl rfl ?_
    refine x_iconst (v := 1) d_M_insert_116 (by decide) ?_
    refine x_iadd d_M_insert_117 ?_
    refine x_istore (lv' := [(5, .inl (x1 + 1)), (0, .inr (.inr x0)), (1, .inl x1), (3, .inl x3), (4, .inl x4)]) d_M_insert_118 (by decide) rfl ?_
    refine x_ls [1, 3, 0] rfl ?_
    exact tl_M_insert_120 xN x0 x3 (x1 + 1) S _ h
  · refine x_aload_n 0 d_M_insert_75 rfl rfl ?_
    refine x_getR (host := none) h hc_5 hi_5 (by decide) wf_M_16 d_M_insert_76 (fun v1 h => ?_)
    refine x_iload 3 d_M_insert_79 rfl ?_
    refine x_iload 4 d_M_insert_81 rfl ?_
    refine x_iadd d_M_insert_83 ?_
    refine x_aload_n 0 d_M_insert_84 rfl rfl ?_
    refine x_getR (host := none) h hc_5 hi_5 (by decide) wf_M_22 d_M_insert_85 (fun v2 h => ?_)
    refine x_iload 4 d_M_insert_88 rfl ?_
    refine x_iald h ha_3 d_M_insert_90 (fun v3 h => ?_)
    refine x_iast h ha_3 d_M_insert_91 (fun S4 h => ?_)
    refine x_aload_n 0 d_M_insert_92 rfl rfl ?_
    refine x_getR (host := none) h hc_5 hi_5 (by decide) wf_M_19 d_M_insert_93 (fun v5 h => ?_)
    refine x_iload 3 d_M_insert_96 rfl ?_
    refine x_iload 4 d_M_insert_98 rfl ?_
    refine x_iadd d_M_insert_100 ?_
    refine x_aload_n 0 d_M_insert_101 rfl rfl ?_
    refine x_getR (host := none) h hc_5 hi_5 (by decide) wf_M_25 d_M_insert_102 (fun v6 h => ?_)
    refine x_iload 4 d_M_insert_105 rfl ?_
    refine x_iald h ha_3 d_M_insert_107 (fun v7 h => ?_)
    refine x_iast h ha_3 d_M_insert_108 (fun S8 h => ?_)
    refine x_iinc (v := 1) (lv' := [(5, .inl (x5 + 1)), (0, .inr (.inr x0)), (1, .inl x1), (3, .inl x3), (4, .inl x4)]) 4 d_M_insert_109 rfl (by decide) (by decide) rfl ?_
    refine x_goto (tgt := 69) d_M_insert_112 (by decide) ?_
    refine x_ls [1, 2, 3, 4, 0] rfl ?_
    exact hk69 x0 x1 x3 x4 (x5 + 1) S8 _ h
theorem tl_M_insert_69 {D : xD} {d : Nat} {S0 : xS} : ∀ (n : Nat) (x0 : Option Nat) (x1 : Int32) (x3 : Int32) (x4 : Int32) (x5 : Int32) (S : xS) (z : Unit × xS), l_M_insert_69 d n x0 x1 x3 x4 x5 S = some z → V m_M_insert D (d + 1) S0 (cvV z) 69 [(0, .inr (.inr x0)), (1, .inl x1), (3, .inl x3), (4, .inl x4), (5, .inl x5)] [] S := by
  intro n
  induction n with
  | zero =>
    intro x0 x1 x3 x4 x5 S z h
    cases h
  | succ n ih =>
    intro x0 x1 x3 x4 x5 S z h
    exact tb_M_insert_69  ih x0 x1 x3 x4 x5 S z h
set_option maxRecDepth 100000 in
set_option maxHeartbeats 4000000 in
theorem tb_M_insert_21 {D : xD} {d : Nat} {S0 : xS} {k21 : Option Nat → Int32 → Int32 → Int32 → Int32 → xS → Option (Unit × xS)} (hk21 : ∀ (x0 : Option Nat) (x1 : Int32) (x3 : Int32) (x4 : Int32) (x5 : Int32)  (S : xS) (z : Unit × xS), k21 x0 x1 x3 x4 x5 S = some z → V m_M_insert D (d + 1) S0 (cvV z) 21 [(0, .inr (.inr x0)), (1, .inl x1), (3, .inl x3), (4, .inl x4), (5, .inl x5)] [] S) : ∀ (x0 : Option Nat) (x1 : Int32) (x3 : Int32) (x4 : Int32) (x5 : Int32) (S : xS) (z : Unit × xS), b_M_insert_21 d k21 x0 x1 x3 x4 x5 S = some z → V m_M_insert D (d + 1) S0 (cvV z) 21 [(0, .inr (.inr x0)), (1, .inl x1), (3, .inl x3), (4, .inl x4), (5, .inl x5)] [] S := by
  intro x0 x1 x3 x4 x5 S z h
  unfold b_M_insert_21 at h
  refine x_iload 4 d_M_insert_21 rfl ?_
  refine x_iload 3 d_M_insert_23 rfl ?_
  refine x_icmp_lt (tgt := 66) d_M_insert_25 (by decide) h (fun h => ?_) (fun h => ?_)
  · refine x_iconst (v := 0) d_M_insert_66 (by decide) ?_
    refine x_istore (lv' := [(5, .inl 0), (0, .inr (.inr x0)), (1, .inl x1), (3, .inl x3), (4, .inl x4)]) d_M_insert_67 (by decide) rfl ?_
    refine x_ls [1, 2, 3, 4, 0] rfl ?_
    exact tl_M_insert_69 xN x0 x1 x3 x4 0 S _ h
  · refine x_aload_n 0 d_M_insert_28 rfl rfl ?_
    refine x_getR (host := none) h hc_5 hi_5 (by decide) wf_M_16 d_M_insert_29 (fun v1 h => ?_)
    refine x_iload 4 d_M_insert_32 rfl ?_
    refine x_iload_n 2 d_M_insert_34 rfl rfl ?_
    refine x_iadd d_M_insert_35 ?_
    refine x_aload_n 0 d_M_insert_36 rfl rfl ?_
    refine x_getR (host := none) h hc_5 hi_5 (by decide) wf_M_16 d_M_insert_37 (fun v2 h => ?_)
    refine x_iload 4 d_M_insert_40 rfl ?_
    refine x_iald h ha_3 d_M_insert_42 (fun v3 h => ?_)
    refine x_iast h ha_3 d_M_insert_43 (fun S4 h => ?_)
    refine x_aload_n 0 d_M_insert_44 rfl rfl ?_
    refine x_getR (host := none) h hc_5 hi_5 (by decide) wf_M_19 d_M_insert_45 (fun v5 h => ?_)
    refine x_iload 4 d_M_insert_48 rfl ?_
    refine x_iload_n 2 d_M_insert_50 rfl rfl ?_
    refine x_iadd d_M_insert_51 ?_
    refine x_aload_n 0 d_M_insert_52 rfl rfl ?_
    refine x_getR (host := none) h hc_5 hi_5 (by decide) wf_M_19 d_M_insert_53 (fun v6 h => ?_)
    refine x_iload 4 d_M_insert_56 rfl ?_
    refine x_iald h ha_3 d_M_insert_58 (fun v7 h => ?_)
    refine x_iast h ha_3 d_M_insert_59 (fun S8 h => ?_)
    refine x_iinc (v := (-1)) (lv' := [(5, .inl (x5 + (-1))), (0, .inr (.inr x0)), (1, .inl x1), (3, .inl x3), (4, .inl x4)]) 4 d_M_insert_60 rfl (by decide) (by decide) rfl ?_
    refine x_goto (tgt := 21) d_M_insert_63 (by decide) ?_
    refine x_ls [1, 2, 3, 4, 0] rfl ?_
    exact hk21 x0 x1 x3 x4 (x5 + (-1)) S8 _ h
theorem tl_M_insert_21 {D : xD} {d : Nat} {S0 : xS} : ∀ (n : Nat) (x0 : Option Nat) (x1 : Int32) (x3 : Int32) (x4 : Int32) (x5 : Int32) (S : xS) (z : Unit × xS), l_M_insert_21 d n x0 x1 x3 x4 x5 S = some z → V m_M_insert D (d + 1) S0 (cvV z) 21 [(0, .inr (.inr x0)), (1, .inl x1), (3, .inl x3), (4, .inl x4), (5, .inl x5)] [] S := by
  intro n
  induction n with
  | zero =>
    intro x0 x1 x3 x4 x5 S z h
    cases h
  | succ n ih =>
    intro x0 x1 x3 x4 x5 S z h
    exact tb_M_insert_21  ih x0 x1 x3 x4 x5 S z h
set_option maxRecDepth 100000 in
set_option maxHeartbeats 4000000 in
theorem te_M_insert {D : xD} {d : Nat} {S0 : xS} : ∀ (p0 : Option Nat) (p1 : Int32) (p2 : Int32) (p3 : Int32) (S : xS) (z : Unit × xS), e_M_insert d p0 p1 p2 p3 S = some z → V m_M_insert D (d + 1) S0 (cvV z) 0 [(0, .inr (.inr p0)), (1, .inl p1), (2, .inl p2), (3, .inl p3)] [] S := by
  intro p0 p1 p2 p3 S z h
  unfold e_M_insert at h
  refine x_aload_n 0 d_M_insert_0 rfl rfl ?_
  refine x_getR (host := none) h hc_5 hi_5 (by decide) wf_M_13 d_M_insert_1 (fun v1 h => ?_)
  refine x_iload_n 1 d_M_insert_4 rfl rfl ?_
  refine x_iald h ha_3 d_M_insert_5 (fun v2 h => ?_)
  refine x_iload_n 2 d_M_insert_6 rfl rfl ?_
  refine x_iadd d_M_insert_7 ?_
  refine x_istore (lv' := [(4, .inl (v2 + p2)), (0, .inr (.inr p0)), (1, .inl p1), (2, .inl p2), (3, .inl p3)]) d_M_insert_8 (by decide) rfl ?_
  refine x_aload_n 1 d_M_insert_10 rfl rfl ?_
  refine x_getR (host := none) h hc_5 hi_5 (by decide) wf_M_13 d_M_insert_11 (fun v3 h => ?_)
  refine x_bipush (v := 16) d_M_insert_14 (by decide) ?_
  refine x_iald h ha_3 d_M_insert_16 (fun v4 h => ?_)
  refine x_iconst (v := 1) d_M_insert_17 (by decide) ?_
  refine x_isub d_M_insert_18 ?_
  refine x_istore (lv' := [(5, .inl (v4 - 1)), (4, .inl (v2 + p2)), (0, .inr (.inr p0)), (1, .inl p1), (2, .inl p2), (3, .inl p3)]) d_M_insert_19 (by decide) rfl ?_
  refine x_ls [2, 3, 5, 1, 0] rfl ?_
  exact tl_M_insert_21 xN p0 p1 p3 (v2 + p2) (v4 - 1) S _ h
theorem s_M_insert : ∀ (d : Nat) (p0 : Option Nat) (p1 : Int32) (p2 : Int32) (p3 : Int32) (S : xS) (z : Unit × xS), f_M_insert d p0 p1 p2 p3 S = some z → ∀ (l : Launch) (D : xD), xMet l m_M_insert D d [.inr (.inr p0), .inl p1, .inl p2, .inl p3] S (cvV z) := by
  intro d
  induction d with
  | zero =>
    intro p0 p1 p2 p3 S z h
    cases h
  | succ d ih =>
    intro p0 p1 p2 p3 S z h l D
    exact x_ofV rfl (by decide) (Nat.le_of_ble_eq_true rfl) (te_M_insert  p0 p1 p2 p3 S z h)
set_option maxRecDepth 100000 in
set_option maxHeartbeats 4000000 in
theorem tb_M_parts_51 {D : xD} {d : Nat} {S0 : xS} : ∀ (y0 : Int32) (S : xS) (z : Int32 × xS), b_M_parts_51 d y0 S = some z → V m_M_parts D (d + 1) S0 (cvI z) 51 [] [.int y0] S := by
  intro y0 S z h
  unfold b_M_parts_51 at h
  exact x_zretI h rfl d_M_parts_51
set_option maxRecDepth 100000 in
set_option maxHeartbeats 4000000 in
theorem tb_M_parts_46 {D : xD} {d : Nat} {S0 : xS} : ∀  (S : xS) (z : Int32 × xS), b_M_parts_46 d  S = some z → V m_M_parts D (d + 1) S0 (cvI z) 46 [] [] S := by
  intro  S z h
  unfold b_M_parts_46 at h
  refine x_iconst (v := 1) d_M_parts_46 (by decide) ?_
  refine x_goto (tgt := 51) d_M_parts_47 (by decide) ?_
  refine x_ls [] rfl ?_
  exact tb_M_parts_51 1 S _ h
set_option maxRecDepth 100000 in
set_option maxHeartbeats 4000000 in
theorem te_M_parts {D : xD} {d : Nat} {S0 : xS} : ∀ (p0 : Option Nat) (p1 : Int32) (p2 : Int32) (S : xS) (z : Int32 × xS), e_M_parts d p0 p1 p2 S = some z → V m_M_parts D (d + 1) S0 (cvI z) 0 [(0, .inr (.inr p0)), (1, .inl p1), (2, .inl p2)] [] S := by
  intro p0 p1 p2 S z h
  unfold e_M_parts at h
  refine x_iload_n 2 d_M_parts_0 rfl rfl ?_
  refine x_aload_n 0 d_M_parts_1 rfl rfl ?_
  refine x_getR (host := none) h hc_5 hi_5 (by decide) wf_M_13 d_M_parts_2 (fun v1 h => ?_)
  refine x_iload_n 1 d_M_parts_5 rfl rfl ?_
  refine x_iald h ha_3 d_M_parts_6 (fun v2 h => ?_)
  refine x_icmp_eq (tgt := 46) d_M_parts_7 (by decide) h (fun h => ?_) (fun h => ?_)
  · refine x_ls [] rfl ?_
    exact tb_M_parts_46 S _ h
  · refine x_aload_n 0 d_M_parts_10 rfl rfl ?_
    refine x_getR (host := none) h hc_5 hi_5 (by decide) wf_M_16 d_M_parts_11 (fun v3 h => ?_)
    refine x_iload_n 2 d_M_parts_14 rfl rfl ?_
    refine x_iald h ha_3 d_M_parts_15 (fun v4 h => ?_)
    refine x_aload_n 0 d_M_parts_16 rfl rfl ?_
    refine x_getR (host := none) h hc_5 hi_5 (by decide) wf_M_16 d_M_parts_17 (fun v5 h => ?_)
    refine x_iload_n 2 d_M_parts_20 rfl rfl ?_
    refine x_iconst (v := 1) d_M_parts_21 (by decide) ?_
    refine x_isub d_M_parts_22 ?_
    refine x_iald h ha_3 d_M_parts_23 (fun v6 h => ?_)
    refine x_iconst (v := 1) d_M_parts_24 (by decide) ?_
    refine x_iadd d_M_parts_25 ?_
    refine x_icmp_ne (tgt := 46) d_M_parts_26 (by decide) h (fun h => ?_) (fun h => ?_)
    · refine x_ls [] rfl ?_
      exact tb_M_parts_46 S _ h
    · refine x_aload_n 0 d_M_parts_29 rfl rfl ?_
      refine x_getR (host := none) h hc_5 hi_5 (by decide) wf_M_19 d_M_parts_30 (fun v7 h => ?_)
      refine x_iload_n 2 d_M_parts_33 rfl rfl ?_
      refine x_iald h ha_3 d_M_parts_34 (fun v8 h => ?_)
      refine x_aload_n 0 d_M_parts_35 rfl rfl ?_
      refine x_getR (host := none) h hc_5 hi_5 (by decide) wf_M_19 d_M_parts_36 (fun v9 h => ?_)
      refine x_iload_n 2 d_M_parts_39 rfl rfl ?_
      refine x_iconst (v := 1) d_M_parts_40 (by decide) ?_
      refine x_isub d_M_parts_41 ?_
      refine x_iald h ha_3 d_M_parts_42 (fun v10 h => ?_)
      refine x_icmp_eq (tgt := 50) d_M_parts_43 (by decide) h (fun h => ?_) (fun h => ?_)
      · refine x_iconst (v := 0) d_M_parts_50 (by decide) ?_
        refine x_ls [] rfl ?_
        exact tb_M_parts_51 0 S _ h
      · refine x_ls [] rfl ?_
        exact tb_M_parts_46 S _ h
theorem s_M_parts : ∀ (d : Nat) (p0 : Option Nat) (p1 : Int32) (p2 : Int32) (S : xS) (z : Int32 × xS), f_M_parts d p0 p1 p2 S = some z → ∀ (l : Launch) (D : xD), xMet l m_M_parts D d [.inr (.inr p0), .inl p1, .inl p2] S (cvI z) := by
  intro d
  induction d with
  | zero =>
    intro p0 p1 p2 S z h
    cases h
  | succ d ih =>
    intro p0 p1 p2 S z h l D
    exact x_ofV rfl (by decide) (Nat.le_of_ble_eq_true rfl) (te_M_parts  p0 p1 p2 S z h)
set_option maxRecDepth 100000 in
set_option maxHeartbeats 4000000 in
theorem tb_M_pieces_36 {D : xD} {d : Nat} {S0 : xS} {k9 : Option Nat → Int32 → Int32 → Int32 → xS → Option (Int32 × xS)} (hk9 : ∀ (x0 : Option Nat) (x1 : Int32) (x2 : Int32) (x3 : Int32)  (S : xS) (z : Int32 × xS), k9 x0 x1 x2 x3 S = some z → V m_M_pieces D (d + 1) S0 (cvI z) 9 [(0, .inr (.inr x0)), (1, .inl x1), (2, .inl x2), (3, .inl x3)] [] S) : ∀ (x0 : Option Nat) (x1 : Int32) (x3 : Int32) (y0 : Int32) (y1 : Int32) (S : xS) (z : Int32 × xS), b_M_pieces_36 d k9 x0 x1 x3 y0 y1 S = some z → V m_M_pieces D (d + 1) S0 (cvI z) 36 [(0, .inr (.inr x0)), (1, .inl x1), (3, .inl x3)] [.int y0, .int y1] S := by
  intro x0 x1 x3 y0 y1 S z h
  unfold b_M_pieces_36 at h
  refine x_iadd d_M_pieces_36 ?_
  refine x_istore_n (lv' := [(2, .inl (y1 + y0)), (0, .inr (.inr x0)), (1, .inl x1), (3, .inl x3)]) d_M_pieces_37 rfl (by decide) rfl ?_
  refine x_iinc (v := 1) (lv' := [(3, .inl (x3 + 1)), (2, .inl (y1 + y0)), (0, .inr (.inr x0)), (1, .inl x1)]) 3 d_M_pieces_38 rfl (by decide) (by decide) rfl ?_
  refine x_goto (tgt := 9) d_M_pieces_41 (by decide) ?_
  refine x_ls [2, 3, 1, 0] rfl ?_
  exact hk9 x0 x1 (y1 + y0) (x3 + 1) S _ h
set_option maxRecDepth 100000 in
set_option maxHeartbeats 4000000 in
theorem tb_M_pieces_9 {D : xD} {d : Nat} {S0 : xS} {k9 : Option Nat → Int32 → Int32 → Int32 → xS → Option (Int32 × xS)} (hk9 : ∀ (x0 : Option Nat) (x1 : Int32) (x2 : Int32) (x3 : Int32)  (S : xS) (z : Int32 × xS), k9 x0 x1 x2 x3 S = some z → V m_M_pieces D (d + 1) S0 (cvI z) 9 [(0, .inr (.inr x0)), (1, .inl x1), (2, .inl x2), (3, .inl x3)] [] S) : ∀ (x0 : Option Nat) (x1 : Int32) (x2 : Int32) (x3 : Int32) (S : xS) (z : Int32 × xS), b_M_pieces_9 d k9 x0 x1 x2 x3 S = some z → V m_M_pieces D (d + 1) S0 (cvI z) 9 [(0, .inr (.inr x0)), (1, .inl x1), (2, .inl x2), (3, .inl x3)] [] S := by
  intro x0 x1 x2 x3 S z h
  unfold b_M_pieces_9 at h
  refine x_iload_n 3 d_M_pieces_9 rfl rfl ?_
  refine x_aload_n 0 d_M_pieces_10 rfl rfl ?_
  refine x_getR (host := none) h hc_5 hi_5 (by decide) wf_M_13 d_M_pieces_11 (fun v1 h => ?_)
  refine x_iload_n 1 d_M_pieces_14 rfl rfl ?_
  refine x_iconst (v := 1) d_M_pieces_15 (by decide) ?_
  refine x_iadd d_M_pieces_16 ?_
  refine x_iald h ha_3 d_M_pieces_17 (fun v2 h => ?_)
  refine x_icmp_ge (tgt := 44) d_M_pieces_18 (by decide) h (fun h => ?_) (fun h => ?_)
  · refine x_iload_n 2 d_M_pieces_44 rfl rfl ?_
    cases h
    exact x_iret rfl d_M_pieces_45
  · refine x_iload_n 2 d_M_pieces_21 rfl rfl ?_
    refine x_aload_n 0 d_M_pieces_22 rfl rfl ?_
    refine x_iload_n 1 d_M_pieces_23 rfl rfl ?_
    refine x_iload_n 3 d_M_pieces_24 rfl rfl ?_
    refine x_callV' (M' := m_M_parts) (ax := [.inl x1, .inl x3]) (cv := cvI) (host := none) (st := [.int x2]) h (fun q h l => s_M_parts d x0 x1 x3 S q h l D) hc_5 rfl d_M_pieces_25 wm_M_52 wc_M_parts rfl (Nat.le_of_ble_eq_true rfl) (fun q3 h => ?_)
    show V _ _ _ _ _ _ _ (.int q3.1 :: .int x2 :: []) _
    refine x_if_eq (tgt := 35) d_M_pieces_28 (by decide) h (fun h => ?_) (fun h => ?_)
    · refine x_iconst (v := 0) d_M_pieces_35 (by decide) ?_
      refine x_ls [0, 1, 3] rfl ?_
      exact tb_M_pieces_36 hk9 x0 x1 x3 0 x2 q3.2 _ h
    · refine x_iconst (v := 1) d_M_pieces_31 (by decide) ?_
      refine x_goto (tgt := 36) d_M_pieces_32 (by decide) ?_
      refine x_ls [0, 1, 3] rfl ?_
      exact tb_M_pieces_36 hk9 x0 x1 x3 1 x2 q3.2 _ h
theorem tl_M_pieces_9 {D : xD} {d : Nat} {S0 : xS} : ∀ (n : Nat) (x0 : Option Nat) (x1 : Int32) (x2 : Int32) (x3 : Int32) (S : xS) (z : Int32 × xS), l_M_pieces_9 d n x0 x1 x2 x3 S = some z → V m_M_pieces D (d + 1) S0 (cvI z) 9 [(0, .inr (.inr x0)), (1, .inl x1), (2, .inl x2), (3, .inl x3)] [] S := by
  intro n
  induction n with
  | zero =>
    intro x0 x1 x2 x3 S z h
    cases h
  | succ n ih =>
    intro x0 x1 x2 x3 S z h
    exact tb_M_pieces_9  ih x0 x1 x2 x3 S z h
set_option maxRecDepth 100000 in
set_option maxHeartbeats 4000000 in
theorem te_M_pieces {D : xD} {d : Nat} {S0 : xS} : ∀ (p0 : Option Nat) (p1 : Int32) (S : xS) (z : Int32 × xS), e_M_pieces d p0 p1 S = some z → V m_M_pieces D (d + 1) S0 (cvI z) 0 [(0, .inr (.inr p0)), (1, .inl p1)] [] S := by
  intro p0 p1 S z h
  unfold e_M_pieces at h
  refine x_iconst (v := 0) d_M_pieces_0 (by decide) ?_
  refine x_istore_n (lv' := [(2, .inl 0), (0, .inr (.inr p0)), (1, .inl p1)]) d_M_pieces_1 rfl (by decide) rfl ?_
  refine x_aload_n 1 d_M_pieces_2 rfl rfl ?_
  refine x_getR (host := none) h hc_5 hi_5 (by decide) wf_M_13 d_M_pieces_3 (fun v1 h => ?_)
  refine x_iload_n 2 d_M_pieces_6 rfl rfl ?_
  refine x_iald h ha_3 d_M_pieces_7 (fun v2 h => ?_)
  refine x_istore_n (lv' := [(3, .inl v2), (2, .inl 0), (0, .inr (.inr p0)), (1, .inl p1)]) d_M_pieces_8 rfl (by decide) rfl ?_
  refine x_ls [2, 3, 1, 0] rfl ?_
  exact tl_M_pieces_9 xN p0 p1 0 v2 S _ h
theorem s_M_pieces : ∀ (d : Nat) (p0 : Option Nat) (p1 : Int32) (S : xS) (z : Int32 × xS), f_M_pieces d p0 p1 S = some z → ∀ (l : Launch) (D : xD), xMet l m_M_pieces D d [.inr (.inr p0), .inl p1] S (cvI z) := by
  intro d
  induction d with
  | zero =>
    intro p0 p1 S z h
    cases h
  | succ d ih =>
    intro p0 p1 S z h l D
    exact x_ofV rfl (by decide) (Nat.le_of_ble_eq_true rfl) (te_M_pieces  p0 p1 S z h)
set_option maxRecDepth 100000 in
set_option maxHeartbeats 4000000 in
theorem tb_M_allPieces_4 {D : xD} {d : Nat} {S0 : xS} {k4 : Option Nat → Int32 → Int32 → xS → Option (Int32 × xS)} (hk4 : ∀ (x0 : Option Nat) (x1 : Int32) (x2 : Int32)  (S : xS) (z : Int32 × xS), k4 x0 x1 x2 S = some z → V m_M_allPieces D (d + 1) S0 (cvI z) 4 [(0, .inr (.inr x0)), (1, .inl x1), (2, .inl x2)] [] S) : ∀ (x0 : Option Nat) (x1 : Int32) (x2 : Int32) (S : xS) (z : Int32 × xS), b_M_allPieces_4 d k4 x0 x1 x2 S = some z → V m_M_allPieces D (d + 1) S0 (cvI z) 4 [(0, .inr (.inr x0)), (1, .inl x1), (2, .inl x2)] [] S := by
  intro x0 x1 x2 S z h
  unfold b_M_allPieces_4 at h
  refine x_iload_n 2 d_M_allPieces_4 rfl rfl ?_
  refine x_bipush (v := 16) d_M_allPieces_5 (by decide) ?_
  refine x_icmp_ge (tgt := 24) d_M_allPieces_7 (by decide) h (fun h => ?_) (fun h => ?_)
  · refine x_iload_n 1 d_M_allPieces_24 rfl rfl ?_
    cases h
    exact x_iret rfl d_M_allPieces_25
  · refine x_iload_n 1 d_M_allPieces_10 rfl rfl ?_
    refine x_aload_n 0 d_M_allPieces_11 rfl rfl ?_
    refine x_iload_n 2 d_M_allPieces_12 rfl rfl ?_
    refine x_callV' (M' := m_M_pieces) (ax := [.inl x2]) (cv := cvI) (host := none) (st := [.int x1]) h (fun q h l => s_M_pieces d x0 x2 S q h l D) hc_5 rfl d_M_allPieces_13 wm_M_55 wc_M_pieces rfl (Nat.le_of_ble_eq_true rfl) (fun q1 h => ?_)
    show V _ _ _ _ _ _ _ (.int q1.1 :: .int x1 :: []) _
    refine x_iadd d_M_allPieces_16 ?_
    refine x_istore_n (lv' := [(1, .inl (x1 + q1.1)), (0, .inr (.inr x0)), (2, .inl x2)]) d_M_allPieces_17 rfl (by decide) rfl ?_
    refine x_iinc (v := 1) (lv' := [(2, .inl (x2 + 1)), (1, .inl (x1 + q1.1)), (0, .inr (.inr x0))]) 2 d_M_allPieces_18 rfl (by decide) (by decide) rfl ?_
    refine x_goto (tgt := 4) d_M_allPieces_21 (by decide) ?_
    refine x_ls [2, 1, 0] rfl ?_
    exact hk4 x0 (x1 + q1.1) (x2 + 1) q1.2 _ h
theorem tl_M_allPieces_4 {D : xD} {d : Nat} {S0 : xS} : ∀ (n : Nat) (x0 : Option Nat) (x1 : Int32) (x2 : Int32) (S : xS) (z : Int32 × xS), l_M_allPieces_4 d n x0 x1 x2 S = some z → V m_M_allPieces D (d + 1) S0 (cvI z) 4 [(0, .inr (.inr x0)), (1, .inl x1), (2, .inl x2)] [] S := by
  intro n
  induction n with
  | zero =>
    intro x0 x1 x2 S z h
    cases h
  | succ n ih =>
    intro x0 x1 x2 S z h
    exact tb_M_allPieces_4  ih x0 x1 x2 S z h
set_option maxRecDepth 100000 in
set_option maxHeartbeats 4000000 in
theorem te_M_allPieces {D : xD} {d : Nat} {S0 : xS} : ∀ (p0 : Option Nat) (S : xS) (z : Int32 × xS), e_M_allPieces d p0 S = some z → V m_M_allPieces D (d + 1) S0 (cvI z) 0 [(0, .inr (.inr p0))] [] S := by
  intro p0 S z h
  unfold e_M_allPieces at h
  refine x_iconst (v := 0) d_M_allPieces_0 (by decide) ?_
  refine x_istore_n (lv' := [(1, .inl 0), (0, .inr (.inr p0))]) d_M_allPieces_1 rfl (by decide) rfl ?_
  refine x_iconst (v := 0) d_M_allPieces_2 (by decide) ?_
  refine x_istore_n (lv' := [(2, .inl 0), (1, .inl 0), (0, .inr (.inr p0))]) d_M_allPieces_3 rfl (by decide) rfl ?_
  refine x_ls [2, 1, 0] rfl ?_
  exact tl_M_allPieces_4 xN p0 0 0 S _ h
theorem s_M_allPieces : ∀ (d : Nat) (p0 : Option Nat) (S : xS) (z : Int32 × xS), f_M_allPieces d p0 S = some z → ∀ (l : Launch) (D : xD), xMet l m_M_allPieces D d [.inr (.inr p0)] S (cvI z) := by
  intro d
  induction d with
  | zero =>
    intro p0 S z h
    cases h
  | succ d ih =>
    intro p0 S z h l D
    exact x_ofV rfl (by decide) (Nat.le_of_ble_eq_true rfl) (te_M_allPieces  p0 S z h)
set_option maxRecDepth 100000 in
set_option maxHeartbeats 4000000 in
theorem tb_M_put_73 {D : xD} {d : Nat} {S0 : xS} {k73 : Option Nat → Int32 → Int32 → Int32 → Int32 → Int32 → Int32 → xS → Option (Int32 × xS)} (hk73 : ∀ (x0 : Option Nat) (x1 : Int32) (x2 : Int32) (x3 : Int32) (x4 : Int32) (x5 : Int32) (x6 : Int32)  (S : xS) (z : Int32 × xS), k73 x0 x1 x2 x3 x4 x5 x6 S = some z → V m_M_put D (d + 1) S0 (cvI z) 73 [(0, .inr (.inr x0)), (1, .inl x1), (2, .inl x2), (3, .inl x3), (4, .inl x4), (5, .inl x5), (6, .inl x6)] [] S) : ∀ (x0 : Option Nat) (x1 : Int32) (x2 : Int32) (x3 : Int32) (x4 : Int32) (x5 : Int32) (x6 : Int32) (S : xS) (z : Int32 × xS), b_M_put_73 d k73 x0 x1 x2 x3 x4 x5 x6 S = some z → V m_M_put D (d + 1) S0 (cvI z) 73 [(0, .inr (.inr x0)), (1, .inl x1), (2, .inl x2), (3, .inl x3), (4, .inl x4), (5, .inl x5), (6, .inl x6)] [] S := by
  intro x0 x1 x2 x3 x4 x5 x6 S z h
  unfold b_M_put_73 at h
  refine x_iload 6 d_M_put_73 rfl ?_
  refine x_iload 4 d_M_put_75 rfl ?_
  refine x_icmp_ge (tgt := 106) d_M_put_77 (by decide) h (fun h => ?_) (fun h => ?_)
  · refine x_aload_n 0 d_M_put_106 rfl rfl ?_
    refine x_iload_n 1 d_M_put_107 rfl rfl ?_
    refine x_iload_n 2 d_M_put_108 rfl rfl ?_
    refine x_iload 4 d_M_put_109 rfl ?_
    refine x_callV' (M' := m_M_insert) (ax := [.inl x1, .inl x2, .inl x4]) (cv := cvV) (host := none) (st := []) h (fun q h l => s_M_insert d x0 x1 x2 x4 S q h l D) hc_5 rfl d_M_put_111 wm_M_58 wc_M_insert rfl (Nat.le_of_ble_eq_true rfl) (fun q1 h => ?_)
    show V _ _ _ _ _ _ _ ([]) _
    refine x_aload_n 0 d_M_put_114 rfl rfl ?_
    refine x_callV' (M' := m_M_allPieces) (ax := []) (cv := cvI) (host := none) (st := []) h (fun q h l => s_M_allPieces d x0 q1.2 q h l D) hc_5 rfl d_M_put_115 wm_M_62 wc_M_allPieces rfl (Nat.le_of_ble_eq_true rfl) (fun q2 h => ?_)
    show V _ _ _ _ _ _ _ (.int q2.1 :: []) _
    refine x_sipush (v := 1024) d_M_put_118 (by decide) ?_
    refine x_icmp_gt (tgt := 130) d_M_put_121 (by decide) h (fun h => ?_) (fun h => ?_)
    · refine x_aload_n 0 d_M_put_130 rfl rfl ?_
      refine x_iload_n 1 d_M_put_131 rfl rfl ?_
      refine x_iload_n 2 d_M_put_132 rfl rfl ?_
      refine x_iload 4 d_M_put_133 rfl ?_
      refine x_callV' (M' := m_M_remove) (ax := [.inl x1, .inl x2, .inl x4]) (cv := cvV) (host := none) (st := []) h (fun q h l => s_M_remove d x0 x1 x2 x4 q2.2 q h l D) hc_5 rfl d_M_put_135 wm_M_66 wc_M_remove rfl (Nat.le_of_ble_eq_true rfl) (fun q3 h => ?_)
      show V _ _ _ _ _ _ _ ([]) _
      refine x_aload_n 0 d_M_put_138 rfl rfl ?_
      refine x_iconst (v := 2) d_M_put_139 (by decide) ?_
      refine x_callV' (M' := m_M_raise) (ax := [.inl 2]) (cv := cvI) (host := none) (st := []) h (fun q h l => s_M_raise d x0 2 q3.2 q h l D) hc_5 rfl d_M_put_140 wm_M_49 wc_M_raise rfl (Nat.le_of_ble_eq_true rfl) (fun q4 h => ?_)
      show V _ _ _ _ _ _ _ (.int q4.1 :: []) _
      cases h
      exact x_iret rfl d_M_put_143
    · refine x_aload_n 0 d_M_put_124 rfl rfl ?_
      refine x_iload_n 1 d_M_put_125 rfl rfl ?_
      refine x_callV' (M' := m_M_size) (ax := [.inl x1]) (cv := cvI) (host := none) (st := []) h (fun q h l => s_M_size d x0 x1 q2.2 q h l D) hc_5 rfl d_M_put_126 wm_M_36 wc_M_size rfl (Nat.le_of_ble_eq_true rfl) (fun q5 h => ?_)
      show V _ _ _ _ _ _ _ (.int q5.1 :: []) _
      cases h
      exact x_iret rfl d_M_put_129
  · refine x_aload_n 0 d_M_put_80 rfl rfl ?_
    refine x_getR (host := none) h hc_5 hi_5 (by decide) wf_M_22 d_M_put_81 (fun v6 h => ?_)
    refine x_iload 6 d_M_put_84 rfl ?_
    refine x_iload_n 3 d_M_put_86 rfl rfl ?_
    refine x_iload 6 d_M_put_87 rfl ?_
    refine x_iadd d_M_put_89 ?_
    refine x_iast h ha_3 d_M_put_90 (fun S7 h => ?_)
    refine x_aload_n 0 d_M_put_91 rfl rfl ?_
    refine x_getR (host := none) h hc_5 hi_5 (by decide) wf_M_25 d_M_put_92 (fun v8 h => ?_)
    refine x_iload 6 d_M_put_95 rfl ?_
    refine x_iload 5 d_M_put_97 rfl ?_
    refine x_iast h ha_3 d_M_put_99 (fun S9 h => ?_)
    refine x_iinc (v := 1) (lv' := [(6, .inl (x6 + 1)), (0, .inr (.inr x0)), (1, .inl x1), (2, .inl x2), (3, .inl x3), (4, .inl x4), (5, .inl x5)]) 6 d_M_put_100 rfl (by decide) (by decide) rfl ?_
    refine x_goto (tgt := 73) d_M_put_103 (by decide) ?_
    refine x_ls [1, 2, 3, 4, 5, 6, 0] rfl ?_
    exact hk73 x0 x1 x2 x3 x4 x5 (x6 + 1) S9 _ h
theorem tl_M_put_73 {D : xD} {d : Nat} {S0 : xS} : ∀ (n : Nat) (x0 : Option Nat) (x1 : Int32) (x2 : Int32) (x3 : Int32) (x4 : Int32) (x5 : Int32) (x6 : Int32) (S : xS) (z : Int32 × xS), l_M_put_73 d n x0 x1 x2 x3 x4 x5 x6 S = some z → V m_M_put D (d + 1) S0 (cvI z) 73 [(0, .inr (.inr x0)), (1, .inl x1), (2, .inl x2), (3, .inl x3), (4, .inl x4), (5, .inl x5), (6, .inl x6)] [] S := by
  intro n
  induction n with
  | zero =>
    intro x0 x1 x2 x3 x4 x5 x6 S z h
    cases h
  | succ n ih =>
    intro x0 x1 x2 x3 x4 x5 x6 S z h
    exact tb_M_put_73  ih x0 x1 x2 x3 x4 x5 x6 S z h
set_option maxRecDepth 100000 in
set_option maxHeartbeats 4000000 in
theorem tb_M_put_36 {D : xD} {d : Nat} {S0 : xS} : ∀ (x0 : Option Nat) (x1 : Int32) (x2 : Int32) (x3 : Int32) (x4 : Int32) (x5 : Int32) (y0 : Int32) (y1 : Option Nat) (S : xS) (z : Int32 × xS), b_M_put_36 d x0 x1 x2 x3 x4 x5 y0 y1 S = some z → V m_M_put D (d + 1) S0 (cvI z) 36 [(0, .inr (.inr x0)), (1, .inl x1), (2, .inl x2), (3, .inl x3), (4, .inl x4), (5, .inl x5)] [.int y0, va_rf y1] S := by
  intro x0 x1 x2 x3 x4 x5 y0 y1 S z h
  unfold b_M_put_36 at h
  refine x_put (host := none) h hc_5 hi_5 tyX_5 ht_5 hn_5 (by decide) rfl rfl rfl wf_M_28 d_M_put_36 (fun S1 h => ?_)
  refine x_aload_n 0 d_M_put_39 rfl rfl ?_
  refine x_getI (host := none) h hc_5 hi_5 (by decide) wf_M_28 d_M_put_40 (fun v2 h => ?_)
  refine x_if_le (tgt := 48) d_M_put_43 (by decide) h (fun h => ?_) (fun h => ?_)
  · refine x_iload 4 d_M_put_48 rfl ?_
    refine x_sipush (v := 4096) d_M_put_50 (by decide) ?_
    refine x_aload_n 0 d_M_put_53 rfl rfl ?_
    refine x_getR (host := none) h hc_5 hi_5 (by decide) wf_M_13 d_M_put_54 (fun v3 h => ?_)
    refine x_bipush (v := 16) d_M_put_57 (by decide) ?_
    refine x_iald h ha_3 d_M_put_59 (fun v4 h => ?_)
    refine x_isub d_M_put_60 ?_
    refine x_icmp_le (tgt := 70) d_M_put_61 (by decide) h (fun h => ?_) (fun h => ?_)
    · refine x_iconst (v := 0) d_M_put_70 (by decide) ?_
      refine x_istore (lv' := [(6, .inl 0), (0, .inr (.inr x0)), (1, .inl x1), (2, .inl x2), (3, .inl x3), (4, .inl x4), (5, .inl x5)]) d_M_put_71 (by decide) rfl ?_
      refine x_ls [1, 2, 3, 4, 5, 6, 0] rfl ?_
      exact tl_M_put_73 xN x0 x1 x2 x3 x4 x5 0 S1 _ h
    · refine x_aload_n 0 d_M_put_64 rfl rfl ?_
      refine x_iconst (v := 2) d_M_put_65 (by decide) ?_
      refine x_callV' (M' := m_M_raise) (ax := [.inl 2]) (cv := cvI) (host := none) (st := []) h (fun q h l => s_M_raise d x0 2 S1 q h l D) hc_5 rfl d_M_put_66 wm_M_49 wc_M_raise rfl (Nat.le_of_ble_eq_true rfl) (fun q5 h => ?_)
      show V _ _ _ _ _ _ _ (.int q5.1 :: []) _
      cases h
      exact x_iret rfl d_M_put_69
  · refine x_iconst (v := 0) d_M_put_46 (by decide) ?_
    cases h
    exact x_iret rfl d_M_put_47
set_option maxRecDepth 100000 in
set_option maxHeartbeats 4000000 in
theorem tb_M_put_31 {D : xD} {d : Nat} {S0 : xS} : ∀ (x0 : Option Nat) (x1 : Int32) (x2 : Int32) (x3 : Int32) (x4 : Int32) (x5 : Int32) (y0 : Option Nat) (S : xS) (z : Int32 × xS), b_M_put_31 d x0 x1 x2 x3 x4 x5 y0 S = some z → V m_M_put D (d + 1) S0 (cvI z) 31 [(0, .inr (.inr x0)), (1, .inl x1), (2, .inl x2), (3, .inl x3), (4, .inl x4), (5, .inl x5)] [va_rf y0] S := by
  intro x0 x1 x2 x3 x4 x5 y0 S z h
  unfold b_M_put_31 at h
  refine x_iconst (v := 1) d_M_put_31 (by decide) ?_
  refine x_goto (tgt := 36) d_M_put_32 (by decide) ?_
  refine x_ls [0, 1, 2, 3, 4, 5] rfl ?_
  exact tb_M_put_36 x0 x1 x2 x3 x4 x5 1 y0 S _ h
set_option maxRecDepth 100000 in
set_option maxHeartbeats 4000000 in
theorem te_M_put {D : xD} {d : Nat} {S0 : xS} : ∀ (p0 : Option Nat) (p1 : Int32) (p2 : Int32) (p3 : Int32) (p4 : Int32) (p5 : Int32) (S : xS) (z : Int32 × xS), e_M_put d p0 p1 p2 p3 p4 p5 S = some z → V m_M_put D (d + 1) S0 (cvI z) 0 [(0, .inr (.inr p0)), (1, .inl p1), (2, .inl p2), (3, .inl p3), (4, .inl p4), (5, .inl p5)] [] S := by
  intro p0 p1 p2 p3 p4 p5 S z h
  unfold e_M_put at h
  refine x_aload_n 0 d_M_put_0 rfl rfl ?_
  refine x_aload_n 0 d_M_put_1 rfl rfl ?_
  refine x_iload_n 1 d_M_put_2 rfl rfl ?_
  refine x_iload_n 2 d_M_put_3 rfl rfl ?_
  refine x_callV' (M' := m_M_isPlace) (ax := [.inl p1, .inl p2]) (cv := cvI) (host := none) (st := [va_rf p0]) h (fun q h l => s_M_isPlace d p0 p1 p2 S q h l D) hc_5 rfl d_M_put_4 wm_M_40 wc_M_isPlace rfl (Nat.le_of_ble_eq_true rfl) (fun q1 h => ?_)
  show V _ _ _ _ _ _ _ (.int q1.1 :: va_rf p0 :: []) _
  refine x_if_eq (tgt := 31) d_M_put_7 (by decide) h (fun h => ?_) (fun h => ?_)
  · refine x_ls [0, 1, 2, 3, 4, 5] rfl ?_
    exact tb_M_put_31 p0 p1 p2 p3 p4 p5 p0 q1.2 _ h
  · refine x_iload_n 3 d_M_put_10 rfl rfl ?_
    refine x_if_lt (tgt := 31) d_M_put_11 (by decide) h (fun h => ?_) (fun h => ?_)
    · refine x_ls [0, 1, 2, 3, 4, 5] rfl ?_
      exact tb_M_put_31 p0 p1 p2 p3 p4 p5 p0 q1.2 _ h
    · refine x_iload 4 d_M_put_14 rfl ?_
      refine x_iconst (v := 1) d_M_put_16 (by decide) ?_
      refine x_icmp_lt (tgt := 31) d_M_put_17 (by decide) h (fun h => ?_) (fun h => ?_)
      · refine x_ls [0, 1, 2, 3, 4, 5] rfl ?_
        exact tb_M_put_31 p0 p1 p2 p3 p4 p5 p0 q1.2 _ h
      · refine x_iload_n 3 d_M_put_20 rfl rfl ?_
        refine x_aload_n 0 d_M_put_21 rfl rfl ?_
        refine x_getI (host := none) h hc_5 hi_5 (by decide) wf_M_46 d_M_put_22 (fun v2 h => ?_)
        refine x_iload 4 d_M_put_25 rfl ?_
        refine x_isub d_M_put_27 ?_
        refine x_icmp_le (tgt := 35) d_M_put_28 (by decide) h (fun h => ?_) (fun h => ?_)
        · refine x_iconst (v := 0) d_M_put_35 (by decide) ?_
          refine x_ls [0, 1, 2, 3, 4, 5] rfl ?_
          exact tb_M_put_36 p0 p1 p2 p3 p4 p5 0 p0 q1.2 _ h
        · refine x_ls [0, 1, 2, 3, 4, 5] rfl ?_
          exact tb_M_put_31 p0 p1 p2 p3 p4 p5 p0 q1.2 _ h
theorem s_M_put : ∀ (d : Nat) (p0 : Option Nat) (p1 : Int32) (p2 : Int32) (p3 : Int32) (p4 : Int32) (p5 : Int32) (S : xS) (z : Int32 × xS), f_M_put d p0 p1 p2 p3 p4 p5 S = some z → ∀ (l : Launch) (D : xD), xMet l m_M_put D d [.inr (.inr p0), .inl p1, .inl p2, .inl p3, .inl p4, .inl p5] S (cvI z) := by
  intro d
  induction d with
  | zero =>
    intro p0 p1 p2 p3 p4 p5 S z h
    cases h
  | succ d ih =>
    intro p0 p1 p2 p3 p4 p5 S z h l D
    exact x_ofV rfl (by decide) (Nat.le_of_ble_eq_true rfl) (te_M_put  p0 p1 p2 p3 p4 p5 S z h)
set_option maxRecDepth 100000 in
set_option maxHeartbeats 4000000 in
theorem tb_M_cut_43 {D : xD} {d : Nat} {S0 : xS} : ∀ (x0 : Option Nat) (x1 : Int32) (x2 : Int32) (x3 : Int32) (x4 : Int32) (y0 : Int32) (y1 : Option Nat) (S : xS) (z : Int32 × xS), b_M_cut_43 d x0 x1 x2 x3 x4 y0 y1 S = some z → V m_M_cut D (d + 1) S0 (cvI z) 43 [(0, .inr (.inr x0)), (1, .inl x1), (2, .inl x2), (3, .inl x3), (4, .inl x4)] [.int y0, va_rf y1] S := by
  intro x0 x1 x2 x3 x4 y0 y1 S z h
  unfold b_M_cut_43 at h
  refine x_put (host := none) h hc_5 hi_5 tyX_5 ht_5 hn_5 (by decide) rfl rfl rfl wf_M_28 d_M_cut_43 (fun S1 h => ?_)
  refine x_aload_n 0 d_M_cut_46 rfl rfl ?_
  refine x_getI (host := none) h hc_5 hi_5 (by decide) wf_M_28 d_M_cut_47 (fun v2 h => ?_)
  refine x_if_le (tgt := 55) d_M_cut_50 (by decide) h (fun h => ?_) (fun h => ?_)
  · refine x_aload_n 0 d_M_cut_55 rfl rfl ?_
    refine x_iload_n 1 d_M_cut_56 rfl rfl ?_
    refine x_iload_n 2 d_M_cut_57 rfl rfl ?_
    refine x_iload_n 3 d_M_cut_58 rfl rfl ?_
    refine x_callV' (M' := m_M_keep) (ax := [.inl x1, .inl x2, .inl x3]) (cv := cvV) (host := none) (st := []) h (fun q h l => s_M_keep d x0 x1 x2 x3 S1 q h l D) hc_5 rfl d_M_cut_59 wm_M_73 wc_M_keep rfl (Nat.le_of_ble_eq_true rfl) (fun q3 h => ?_)
    show V _ _ _ _ _ _ _ ([]) _
    refine x_aload_n 0 d_M_cut_62 rfl rfl ?_
    refine x_iload_n 1 d_M_cut_63 rfl rfl ?_
    refine x_iload_n 2 d_M_cut_64 rfl rfl ?_
    refine x_iload_n 3 d_M_cut_65 rfl rfl ?_
    refine x_callV' (M' := m_M_remove) (ax := [.inl x1, .inl x2, .inl x3]) (cv := cvV) (host := none) (st := []) h (fun q h l => s_M_remove d x0 x1 x2 x3 q3.2 q h l D) hc_5 rfl d_M_cut_66 wm_M_66 wc_M_remove rfl (Nat.le_of_ble_eq_true rfl) (fun q4 h => ?_)
    show V _ _ _ _ _ _ _ ([]) _
    refine x_aload_n 0 d_M_cut_69 rfl rfl ?_
    refine x_iload 4 d_M_cut_70 rfl ?_
    refine x_iconst (v := 0) d_M_cut_72 (by decide) ?_
    refine x_iload_n 3 d_M_cut_73 rfl rfl ?_
    refine x_callV' (M' := m_M_insert) (ax := [.inl x4, .inl 0, .inl x3]) (cv := cvV) (host := none) (st := []) h (fun q h l => s_M_insert d x0 x4 0 x3 q4.2 q h l D) hc_5 rfl d_M_cut_74 wm_M_58 wc_M_insert rfl (Nat.le_of_ble_eq_true rfl) (fun q5 h => ?_)
    show V _ _ _ _ _ _ _ ([]) _
    refine x_aload_n 0 d_M_cut_77 rfl rfl ?_
    refine x_callV' (M' := m_M_allPieces) (ax := []) (cv := cvI) (host := none) (st := []) h (fun q h l => s_M_allPieces d x0 q5.2 q h l D) hc_5 rfl d_M_cut_78 wm_M_62 wc_M_allPieces rfl (Nat.le_of_ble_eq_true rfl) (fun q6 h => ?_)
    show V _ _ _ _ _ _ _ (.int q6.1 :: []) _
    refine x_sipush (v := 1024) d_M_cut_81 (by decide) ?_
    refine x_icmp_gt (tgt := 93) d_M_cut_84 (by decide) h (fun h => ?_) (fun h => ?_)
    · refine x_aload_n 0 d_M_cut_93 rfl rfl ?_
      refine x_iload 4 d_M_cut_94 rfl ?_
      refine x_iconst (v := 0) d_M_cut_96 (by decide) ?_
      refine x_iload_n 3 d_M_cut_97 rfl rfl ?_
      refine x_callV' (M' := m_M_keep) (ax := [.inl x4, .inl 0, .inl x3]) (cv := cvV) (host := none) (st := []) h (fun q h l => s_M_keep d x0 x4 0 x3 q6.2 q h l D) hc_5 rfl d_M_cut_98 wm_M_73 wc_M_keep rfl (Nat.le_of_ble_eq_true rfl) (fun q7 h => ?_)
      show V _ _ _ _ _ _ _ ([]) _
      refine x_aload_n 0 d_M_cut_101 rfl rfl ?_
      refine x_iload 4 d_M_cut_102 rfl ?_
      refine x_iconst (v := 0) d_M_cut_104 (by decide) ?_
      refine x_iload_n 3 d_M_cut_105 rfl rfl ?_
      refine x_callV' (M' := m_M_remove) (ax := [.inl x4, .inl 0, .inl x3]) (cv := cvV) (host := none) (st := []) h (fun q h l => s_M_remove d x0 x4 0 x3 q7.2 q h l D) hc_5 rfl d_M_cut_106 wm_M_66 wc_M_remove rfl (Nat.le_of_ble_eq_true rfl) (fun q8 h => ?_)
      show V _ _ _ _ _ _ _ ([]) _
      refine x_aload_n 0 d_M_cut_109 rfl rfl ?_
      refine x_iload_n 1 d_M_cut_110 rfl rfl ?_
      refine x_iload_n 2 d_M_cut_111 rfl rfl ?_
      refine x_iload_n 3 d_M_cut_112 rfl rfl ?_
      refine x_callV' (M' := m_M_insert) (ax := [.inl x1, .inl x2, .inl x3]) (cv := cvV) (host := none) (st := []) h (fun q h l => s_M_insert d x0 x1 x2 x3 q8.2 q h l D) hc_5 rfl d_M_cut_113 wm_M_58 wc_M_insert rfl (Nat.le_of_ble_eq_true rfl) (fun q9 h => ?_)
      show V _ _ _ _ _ _ _ ([]) _
      refine x_aload_n 0 d_M_cut_116 rfl rfl ?_
      refine x_iconst (v := 3) d_M_cut_117 (by decide) ?_
      refine x_callV' (M' := m_M_raise) (ax := [.inl 3]) (cv := cvI) (host := none) (st := []) h (fun q h l => s_M_raise d x0 3 q9.2 q h l D) hc_5 rfl d_M_cut_118 wm_M_49 wc_M_raise rfl (Nat.le_of_ble_eq_true rfl) (fun q10 h => ?_)
      show V _ _ _ _ _ _ _ (.int q10.1 :: []) _
      cases h
      exact x_iret rfl d_M_cut_121
    · refine x_aload_n 0 d_M_cut_87 rfl rfl ?_
      refine x_iload_n 1 d_M_cut_88 rfl rfl ?_
      refine x_callV' (M' := m_M_size) (ax := [.inl x1]) (cv := cvI) (host := none) (st := []) h (fun q h l => s_M_size d x0 x1 q6.2 q h l D) hc_5 rfl d_M_cut_89 wm_M_36 wc_M_size rfl (Nat.le_of_ble_eq_true rfl) (fun q11 h => ?_)
      show V _ _ _ _ _ _ _ (.int q11.1 :: []) _
      cases h
      exact x_iret rfl d_M_cut_92
  · refine x_iconst (v := 0) d_M_cut_53 (by decide) ?_
    cases h
    exact x_iret rfl d_M_cut_54
set_option maxRecDepth 100000 in
set_option maxHeartbeats 4000000 in
theorem tb_M_cut_38 {D : xD} {d : Nat} {S0 : xS} : ∀ (x0 : Option Nat) (x1 : Int32) (x2 : Int32) (x3 : Int32) (x4 : Int32) (y0 : Option Nat) (S : xS) (z : Int32 × xS), b_M_cut_38 d x0 x1 x2 x3 x4 y0 S = some z → V m_M_cut D (d + 1) S0 (cvI z) 38 [(0, .inr (.inr x0)), (1, .inl x1), (2, .inl x2), (3, .inl x3), (4, .inl x4)] [va_rf y0] S := by
  intro x0 x1 x2 x3 x4 y0 S z h
  unfold b_M_cut_38 at h
  refine x_iconst (v := 2) d_M_cut_38 (by decide) ?_
  refine x_goto (tgt := 43) d_M_cut_39 (by decide) ?_
  refine x_ls [0, 1, 2, 3, 4] rfl ?_
  exact tb_M_cut_43 x0 x1 x2 x3 x4 2 y0 S _ h
set_option maxRecDepth 100000 in
set_option maxHeartbeats 4000000 in
theorem tb_M_cut_19 {D : xD} {d : Nat} {S0 : xS} : ∀ (x0 : Option Nat) (x1 : Int32) (x2 : Int32) (x3 : Int32) (x4 : Int32) (y0 : Option Nat) (S : xS) (z : Int32 × xS), b_M_cut_19 d x0 x1 x2 x3 x4 y0 S = some z → V m_M_cut D (d + 1) S0 (cvI z) 19 [(0, .inr (.inr x0)), (1, .inl x1), (2, .inl x2), (3, .inl x3), (4, .inl x4)] [va_rf y0] S := by
  intro x0 x1 x2 x3 x4 y0 S z h
  unfold b_M_cut_19 at h
  refine x_iconst (v := 1) d_M_cut_19 (by decide) ?_
  refine x_goto (tgt := 43) d_M_cut_20 (by decide) ?_
  refine x_ls [0, 1, 2, 3, 4] rfl ?_
  exact tb_M_cut_43 x0 x1 x2 x3 x4 1 y0 S _ h
set_option maxRecDepth 100000 in
set_option maxHeartbeats 4000000 in
theorem te_M_cut {D : xD} {d : Nat} {S0 : xS} : ∀ (p0 : Option Nat) (p1 : Int32) (p2 : Int32) (p3 : Int32) (p4 : Int32) (S : xS) (z : Int32 × xS), e_M_cut d p0 p1 p2 p3 p4 S = some z → V m_M_cut D (d + 1) S0 (cvI z) 0 [(0, .inr (.inr p0)), (1, .inl p1), (2, .inl p2), (3, .inl p3), (4, .inl p4)] [] S := by
  intro p0 p1 p2 p3 p4 S z h
  unfold e_M_cut at h
  refine x_aload_n 0 d_M_cut_0 rfl rfl ?_
  refine x_aload_n 0 d_M_cut_1 rfl rfl ?_
  refine x_iload_n 1 d_M_cut_2 rfl rfl ?_
  refine x_iload_n 2 d_M_cut_3 rfl rfl ?_
  refine x_iload_n 3 d_M_cut_4 rfl rfl ?_
  refine x_callV' (M' := m_M_isRange) (ax := [.inl p1, .inl p2, .inl p3]) (cv := cvI) (host := none) (st := [va_rf p0]) h (fun q h l => s_M_isRange d p0 p1 p2 p3 S q h l D) hc_5 rfl d_M_cut_5 wm_M_69 wc_M_isRange rfl (Nat.le_of_ble_eq_true rfl) (fun q1 h => ?_)
  show V _ _ _ _ _ _ _ (.int q1.1 :: va_rf p0 :: []) _
  refine x_if_eq (tgt := 19) d_M_cut_8 (by decide) h (fun h => ?_) (fun h => ?_)
  · refine x_ls [0, 1, 2, 3, 4] rfl ?_
    exact tb_M_cut_19 p0 p1 p2 p3 p4 p0 q1.2 _ h
  · refine x_iload 4 d_M_cut_11 rfl ?_
    refine x_callS' (M' := m_M_isText) (ax := [.inl p4]) (cv := cvI) (host := none) (st := [va_rf p0]) h (fun q h l => s_M_isText d p4 q1.2 q h l D) rfl d_M_cut_13 wm_M_32 wc_M_isText rfl (Nat.le_of_ble_eq_true rfl) (fun q2 h => ?_)
    show V _ _ _ _ _ _ _ (.int q2.1 :: va_rf p0 :: []) _
    refine x_if_ne (tgt := 23) d_M_cut_16 (by decide) h (fun h => ?_) (fun h => ?_)
    · refine x_iload 4 d_M_cut_23 rfl ?_
      refine x_iload_n 1 d_M_cut_25 rfl rfl ?_
      refine x_icmp_eq (tgt := 38) d_M_cut_26 (by decide) h (fun h => ?_) (fun h => ?_)
      · refine x_ls [0, 1, 2, 3, 4] rfl ?_
        exact tb_M_cut_38 p0 p1 p2 p3 p4 p0 q2.2 _ h
      · refine x_aload_n 0 d_M_cut_29 rfl rfl ?_
        refine x_iload 4 d_M_cut_30 rfl ?_
        refine x_callV' (M' := m_M_size) (ax := [.inl p4]) (cv := cvI) (host := none) (st := [va_rf p0]) h (fun q h l => s_M_size d p0 p4 q2.2 q h l D) hc_5 rfl d_M_cut_32 wm_M_36 wc_M_size rfl (Nat.le_of_ble_eq_true rfl) (fun q3 h => ?_)
        show V _ _ _ _ _ _ _ (.int q3.1 :: va_rf p0 :: []) _
        refine x_if_le (tgt := 42) d_M_cut_35 (by decide) h (fun h => ?_) (fun h => ?_)
        · refine x_iconst (v := 0) d_M_cut_42 (by decide) ?_
          refine x_ls [0, 1, 2, 3, 4] rfl ?_
          exact tb_M_cut_43 p0 p1 p2 p3 p4 0 p0 q3.2 _ h
        · refine x_ls [0, 1, 2, 3, 4] rfl ?_
          exact tb_M_cut_38 p0 p1 p2 p3 p4 p0 q3.2 _ h
    · refine x_ls [0, 1, 2, 3, 4] rfl ?_
      exact tb_M_cut_19 p0 p1 p2 p3 p4 p0 q2.2 _ h
theorem s_M_cut : ∀ (d : Nat) (p0 : Option Nat) (p1 : Int32) (p2 : Int32) (p3 : Int32) (p4 : Int32) (S : xS) (z : Int32 × xS), f_M_cut d p0 p1 p2 p3 p4 S = some z → ∀ (l : Launch) (D : xD), xMet l m_M_cut D d [.inr (.inr p0), .inl p1, .inl p2, .inl p3, .inl p4] S (cvI z) := by
  intro d
  induction d with
  | zero =>
    intro p0 p1 p2 p3 p4 S z h
    cases h
  | succ d ih =>
    intro p0 p1 p2 p3 p4 S z h l D
    exact x_ofV rfl (by decide) (Nat.le_of_ble_eq_true rfl) (te_M_cut  p0 p1 p2 p3 p4 S z h)
set_option maxRecDepth 100000 in
set_option maxHeartbeats 4000000 in
theorem tb_M_paste_31 {D : xD} {d : Nat} {S0 : xS} : ∀ (x0 : Option Nat) (x1 : Int32) (x2 : Int32) (x3 : Int32) (y0 : Int32) (y1 : Option Nat) (S : xS) (z : Int32 × xS), b_M_paste_31 d x0 x1 x2 x3 y0 y1 S = some z → V m_M_paste D (d + 1) S0 (cvI z) 31 [(0, .inr (.inr x0)), (1, .inl x1), (2, .inl x2), (3, .inl x3)] [.int y0, va_rf y1] S := by
  intro x0 x1 x2 x3 y0 y1 S z h
  unfold b_M_paste_31 at h
  refine x_put (host := none) h hc_5 hi_5 tyX_5 ht_5 hn_5 (by decide) rfl rfl rfl wf_M_28 d_M_paste_31 (fun S1 h => ?_)
  refine x_aload_n 0 d_M_paste_34 rfl rfl ?_
  refine x_getI (host := none) h hc_5 hi_5 (by decide) wf_M_28 d_M_paste_35 (fun v2 h => ?_)
  refine x_if_le (tgt := 43) d_M_paste_38 (by decide) h (fun h => ?_) (fun h => ?_)
  · refine x_aload_n 0 d_M_paste_43 rfl rfl ?_
    refine x_iload_n 3 d_M_paste_44 rfl rfl ?_
    refine x_callV' (M' := m_M_size) (ax := [.inl x3]) (cv := cvI) (host := none) (st := []) h (fun q h l => s_M_size d x0 x3 S1 q h l D) hc_5 rfl d_M_paste_45 wm_M_36 wc_M_size rfl (Nat.le_of_ble_eq_true rfl) (fun q3 h => ?_)
    show V _ _ _ _ _ _ _ (.int q3.1 :: []) _
    refine x_istore (lv' := [(4, .inl q3.1), (0, .inr (.inr x0)), (1, .inl x1), (2, .inl x2), (3, .inl x3)]) d_M_paste_48 (by decide) rfl ?_
    refine x_aload_n 1 d_M_paste_50 rfl rfl ?_
    refine x_iload_n 4 d_M_paste_51 rfl rfl ?_
    refine x_iconst (v := 0) d_M_paste_52 (by decide) ?_
    refine x_iload 0 d_M_paste_53 rfl ?_
    refine x_callV' (M' := m_M_keep) (ax := [.inl x3, .inl 0, .inl q3.1]) (cv := cvV) (host := none) (st := []) h (fun q h l => s_M_keep d x0 x3 0 q3.1 q3.2 q h l D) hc_5 rfl d_M_paste_55 wm_M_73 wc_M_keep rfl (Nat.le_of_ble_eq_true rfl) (fun q4 h => ?_)
    show V _ _ _ _ _ _ _ ([]) _
    refine x_aload_n 1 d_M_paste_58 rfl rfl ?_
    refine x_iload_n 4 d_M_paste_59 rfl rfl ?_
    refine x_iconst (v := 0) d_M_paste_60 (by decide) ?_
    refine x_iload 0 d_M_paste_61 rfl ?_
    refine x_callV' (M' := m_M_remove) (ax := [.inl x3, .inl 0, .inl q3.1]) (cv := cvV) (host := none) (st := []) h (fun q h l => s_M_remove d x0 x3 0 q3.1 q4.2 q h l D) hc_5 rfl d_M_paste_63 wm_M_66 wc_M_remove rfl (Nat.le_of_ble_eq_true rfl) (fun q5 h => ?_)
    show V _ _ _ _ _ _ _ ([]) _
    refine x_aload_n 1 d_M_paste_66 rfl rfl ?_
    refine x_iload_n 2 d_M_paste_67 rfl rfl ?_
    refine x_iload_n 3 d_M_paste_68 rfl rfl ?_
    refine x_iload 0 d_M_paste_69 rfl ?_
    refine x_callV' (M' := m_M_insert) (ax := [.inl x1, .inl x2, .inl q3.1]) (cv := cvV) (host := none) (st := []) h (fun q h l => s_M_insert d x0 x1 x2 q3.1 q5.2 q h l D) hc_5 rfl d_M_paste_71 wm_M_58 wc_M_insert rfl (Nat.le_of_ble_eq_true rfl) (fun q6 h => ?_)
    show V _ _ _ _ _ _ _ ([]) _
    refine x_aload_n 1 d_M_paste_74 rfl rfl ?_
    refine x_callV' (M' := m_M_allPieces) (ax := []) (cv := cvI) (host := none) (st := []) h (fun q h l => s_M_allPieces d x0 q6.2 q h l D) hc_5 rfl d_M_paste_75 wm_M_62 wc_M_allPieces rfl (Nat.le_of_ble_eq_true rfl) (fun q7 h => ?_)
    show V _ _ _ _ _ _ _ (.int q7.1 :: []) _
    refine x_sipush (v := 1024) d_M_paste_78 (by decide) ?_
    refine x_icmp_gt (tgt := 90) d_M_paste_81 (by decide) h (fun h => ?_) (fun h => ?_)
    · refine x_aload_n 1 d_M_paste_90 rfl rfl ?_
      refine x_iload_n 2 d_M_paste_91 rfl rfl ?_
      refine x_iload_n 3 d_M_paste_92 rfl rfl ?_
      refine x_iload 0 d_M_paste_93 rfl ?_
      refine x_callV' (M' := m_M_keep) (ax := [.inl x1, .inl x2, .inl q3.1]) (cv := cvV) (host := none) (st := []) h (fun q h l => s_M_keep d x0 x1 x2 q3.1 q7.2 q h l D) hc_5 rfl d_M_paste_95 wm_M_73 wc_M_keep rfl (Nat.le_of_ble_eq_true rfl) (fun q8 h => ?_)
      show V _ _ _ _ _ _ _ ([]) _
      refine x_aload_n 1 d_M_paste_98 rfl rfl ?_
      refine x_iload_n 2 d_M_paste_99 rfl rfl ?_
      refine x_iload_n 3 d_M_paste_100 rfl rfl ?_
      refine x_iload 0 d_M_paste_101 rfl ?_
      refine x_callV' (M' := m_M_remove) (ax := [.inl x1, .inl x2, .inl q3.1]) (cv := cvV) (host := none) (st := []) h (fun q h l => s_M_remove d x0 x1 x2 q3.1 q8.2 q h l D) hc_5 rfl d_M_paste_103 wm_M_66 wc_M_remove rfl (Nat.le_of_ble_eq_true rfl) (fun q9 h => ?_)
      show V _ _ _ _ _ _ _ ([]) _
      refine x_aload_n 1 d_M_paste_106 rfl rfl ?_
      refine x_iload_n 4 d_M_paste_107 rfl rfl ?_
      refine x_iconst (v := 0) d_M_paste_108 (by decide) ?_
      refine x_iload 0 d_M_paste_109 rfl ?_
      refine x_callV' (M' := m_M_insert) (ax := [.inl x3, .inl 0, .inl q3.1]) (cv := cvV) (host := none) (st := []) h (fun q h l => s_M_insert d x0 x3 0 q3.1 q9.2 q h l D) hc_5 rfl d_M_paste_111 wm_M_58 wc_M_insert rfl (Nat.le_of_ble_eq_true rfl) (fun q10 h => ?_)
      show V _ _ _ _ _ _ _ ([]) _
      refine x_aload_n 1 d_M_paste_114 rfl rfl ?_
      refine x_iconst (v := 3) d_M_paste_115 (by decide) ?_
      refine x_callV' (M' := m_M_raise) (ax := [.inl 3]) (cv := cvI) (host := none) (st := []) h (fun q h l => s_M_raise d x0 3 q10.2 q h l D) hc_5 rfl d_M_paste_116 wm_M_49 wc_M_raise rfl (Nat.le_of_ble_eq_true rfl) (fun q11 h => ?_)
      show V _ _ _ _ _ _ _ (.int q11.1 :: []) _
      cases h
      exact x_iret rfl d_M_paste_119
    · refine x_aload_n 1 d_M_paste_84 rfl rfl ?_
      refine x_iload_n 2 d_M_paste_85 rfl rfl ?_
      refine x_callV' (M' := m_M_size) (ax := [.inl x1]) (cv := cvI) (host := none) (st := []) h (fun q h l => s_M_size d x0 x1 q7.2 q h l D) hc_5 rfl d_M_paste_86 wm_M_36 wc_M_size rfl (Nat.le_of_ble_eq_true rfl) (fun q12 h => ?_)
      show V _ _ _ _ _ _ _ (.int q12.1 :: []) _
      cases h
      exact x_iret rfl d_M_paste_89
  · refine x_iconst (v := 0) d_M_paste_41 (by decide) ?_
    cases h
    exact x_iret rfl d_M_paste_42
set_option maxRecDepth 100000 in
set_option maxHeartbeats 4000000 in
theorem tb_M_paste_17 {D : xD} {d : Nat} {S0 : xS} : ∀ (x0 : Option Nat) (x1 : Int32) (x2 : Int32) (x3 : Int32) (y0 : Option Nat) (S : xS) (z : Int32 × xS), b_M_paste_17 d x0 x1 x2 x3 y0 S = some z → V m_M_paste D (d + 1) S0 (cvI z) 17 [(0, .inr (.inr x0)), (1, .inl x1), (2, .inl x2), (3, .inl x3)] [va_rf y0] S := by
  intro x0 x1 x2 x3 y0 S z h
  unfold b_M_paste_17 at h
  refine x_iconst (v := 1) d_M_paste_17 (by decide) ?_
  refine x_goto (tgt := 31) d_M_paste_18 (by decide) ?_
  refine x_ls [0, 1, 2, 3] rfl ?_
  exact tb_M_paste_31 x0 x1 x2 x3 1 y0 S _ h
set_option maxRecDepth 100000 in
set_option maxHeartbeats 4000000 in
theorem te_M_paste {D : xD} {d : Nat} {S0 : xS} : ∀ (p0 : Option Nat) (p1 : Int32) (p2 : Int32) (p3 : Int32) (S : xS) (z : Int32 × xS), e_M_paste d p0 p1 p2 p3 S = some z → V m_M_paste D (d + 1) S0 (cvI z) 0 [(0, .inr (.inr p0)), (1, .inl p1), (2, .inl p2), (3, .inl p3)] [] S := by
  intro p0 p1 p2 p3 S z h
  unfold e_M_paste at h
  refine x_aload_n 0 d_M_paste_0 rfl rfl ?_
  refine x_aload_n 0 d_M_paste_1 rfl rfl ?_
  refine x_iload_n 1 d_M_paste_2 rfl rfl ?_
  refine x_iload_n 2 d_M_paste_3 rfl rfl ?_
  refine x_callV' (M' := m_M_isPlace) (ax := [.inl p1, .inl p2]) (cv := cvI) (host := none) (st := [va_rf p0]) h (fun q h l => s_M_isPlace d p0 p1 p2 S q h l D) hc_5 rfl d_M_paste_4 wm_M_40 wc_M_isPlace rfl (Nat.le_of_ble_eq_true rfl) (fun q1 h => ?_)
  show V _ _ _ _ _ _ _ (.int q1.1 :: va_rf p0 :: []) _
  refine x_if_eq (tgt := 17) d_M_paste_7 (by decide) h (fun h => ?_) (fun h => ?_)
  · refine x_ls [0, 1, 2, 3] rfl ?_
    exact tb_M_paste_17 p0 p1 p2 p3 p0 q1.2 _ h
  · refine x_iload_n 3 d_M_paste_10 rfl rfl ?_
    refine x_callS' (M' := m_M_isText) (ax := [.inl p3]) (cv := cvI) (host := none) (st := [va_rf p0]) h (fun q h l => s_M_isText d p3 q1.2 q h l D) rfl d_M_paste_11 wm_M_32 wc_M_isText rfl (Nat.le_of_ble_eq_true rfl) (fun q2 h => ?_)
    show V _ _ _ _ _ _ _ (.int q2.1 :: va_rf p0 :: []) _
    refine x_if_ne (tgt := 21) d_M_paste_14 (by decide) h (fun h => ?_) (fun h => ?_)
    · refine x_iload_n 3 d_M_paste_21 rfl rfl ?_
      refine x_iload_n 1 d_M_paste_22 rfl rfl ?_
      refine x_icmp_ne (tgt := 30) d_M_paste_23 (by decide) h (fun h => ?_) (fun h => ?_)
      · refine x_iconst (v := 0) d_M_paste_30 (by decide) ?_
        refine x_ls [0, 1, 2, 3] rfl ?_
        exact tb_M_paste_31 p0 p1 p2 p3 0 p0 q2.2 _ h
      · refine x_iconst (v := 2) d_M_paste_26 (by decide) ?_
        refine x_goto (tgt := 31) d_M_paste_27 (by decide) ?_
        refine x_ls [0, 1, 2, 3] rfl ?_
        exact tb_M_paste_31 p0 p1 p2 p3 2 p0 q2.2 _ h
    · refine x_ls [0, 1, 2, 3] rfl ?_
      exact tb_M_paste_17 p0 p1 p2 p3 p0 q2.2 _ h
theorem s_M_paste : ∀ (d : Nat) (p0 : Option Nat) (p1 : Int32) (p2 : Int32) (p3 : Int32) (S : xS) (z : Int32 × xS), f_M_paste d p0 p1 p2 p3 S = some z → ∀ (l : Launch) (D : xD), xMet l m_M_paste D d [.inr (.inr p0), .inl p1, .inl p2, .inl p3] S (cvI z) := by
  intro d
  induction d with
  | zero =>
    intro p0 p1 p2 p3 S z h
    cases h
  | succ d ih =>
    intro p0 p1 p2 p3 S z h l D
    exact x_ofV rfl (by decide) (Nat.le_of_ble_eq_true rfl) (te_M_paste  p0 p1 p2 p3 S z h)
set_option maxRecDepth 100000 in
set_option maxHeartbeats 4000000 in
theorem tb_M_copy_43 {D : xD} {d : Nat} {S0 : xS} : ∀ (x0 : Option Nat) (x1 : Int32) (x2 : Int32) (x3 : Int32) (x4 : Int32) (y0 : Int32) (y1 : Option Nat) (S : xS) (z : Int32 × xS), b_M_copy_43 d x0 x1 x2 x3 x4 y0 y1 S = some z → V m_M_copy D (d + 1) S0 (cvI z) 43 [(0, .inr (.inr x0)), (1, .inl x1), (2, .inl x2), (3, .inl x3), (4, .inl x4)] [.int y0, va_rf y1] S := by
  intro x0 x1 x2 x3 x4 y0 y1 S z h
  unfold b_M_copy_43 at h
  refine x_put (host := none) h hc_5 hi_5 tyX_5 ht_5 hn_5 (by decide) rfl rfl rfl wf_M_28 d_M_copy_43 (fun S1 h => ?_)
  refine x_aload_n 0 d_M_copy_46 rfl rfl ?_
  refine x_getI (host := none) h hc_5 hi_5 (by decide) wf_M_28 d_M_copy_47 (fun v2 h => ?_)
  refine x_if_le (tgt := 55) d_M_copy_50 (by decide) h (fun h => ?_) (fun h => ?_)
  · refine x_iload_n 3 d_M_copy_55 rfl rfl ?_
    refine x_sipush (v := 4096) d_M_copy_56 (by decide) ?_
    refine x_aload_n 0 d_M_copy_59 rfl rfl ?_
    refine x_getR (host := none) h hc_5 hi_5 (by decide) wf_M_13 d_M_copy_60 (fun v3 h => ?_)
    refine x_bipush (v := 16) d_M_copy_63 (by decide) ?_
    refine x_iald h ha_3 d_M_copy_65 (fun v4 h => ?_)
    refine x_isub d_M_copy_66 ?_
    refine x_icmp_le (tgt := 76) d_M_copy_67 (by decide) h (fun h => ?_) (fun h => ?_)
    · refine x_aload_n 0 d_M_copy_76 rfl rfl ?_
      refine x_iload_n 1 d_M_copy_77 rfl rfl ?_
      refine x_iload_n 2 d_M_copy_78 rfl rfl ?_
      refine x_iload_n 3 d_M_copy_79 rfl rfl ?_
      refine x_callV' (M' := m_M_keep) (ax := [.inl x1, .inl x2, .inl x3]) (cv := cvV) (host := none) (st := []) h (fun q h l => s_M_keep d x0 x1 x2 x3 S1 q h l D) hc_5 rfl d_M_copy_80 wm_M_73 wc_M_keep rfl (Nat.le_of_ble_eq_true rfl) (fun q5 h => ?_)
      show V _ _ _ _ _ _ _ ([]) _
      refine x_aload_n 0 d_M_copy_83 rfl rfl ?_
      refine x_iload 4 d_M_copy_84 rfl ?_
      refine x_iconst (v := 0) d_M_copy_86 (by decide) ?_
      refine x_iload_n 3 d_M_copy_87 rfl rfl ?_
      refine x_callV' (M' := m_M_insert) (ax := [.inl x4, .inl 0, .inl x3]) (cv := cvV) (host := none) (st := []) h (fun q h l => s_M_insert d x0 x4 0 x3 q5.2 q h l D) hc_5 rfl d_M_copy_88 wm_M_58 wc_M_insert rfl (Nat.le_of_ble_eq_true rfl) (fun q6 h => ?_)
      show V _ _ _ _ _ _ _ ([]) _
      refine x_aload_n 0 d_M_copy_91 rfl rfl ?_
      refine x_callV' (M' := m_M_allPieces) (ax := []) (cv := cvI) (host := none) (st := []) h (fun q h l => s_M_allPieces d x0 q6.2 q h l D) hc_5 rfl d_M_copy_92 wm_M_62 wc_M_allPieces rfl (Nat.le_of_ble_eq_true rfl) (fun q7 h => ?_)
      show V _ _ _ _ _ _ _ (.int q7.1 :: []) _
      refine x_sipush (v := 1024) d_M_copy_95 (by decide) ?_
      refine x_icmp_gt (tgt := 108) d_M_copy_98 (by decide) h (fun h => ?_) (fun h => ?_)
      · refine x_aload_n 0 d_M_copy_108 rfl rfl ?_
        refine x_iload 4 d_M_copy_109 rfl ?_
        refine x_iconst (v := 0) d_M_copy_111 (by decide) ?_
        refine x_iload_n 3 d_M_copy_112 rfl rfl ?_
        refine x_callV' (M' := m_M_remove) (ax := [.inl x4, .inl 0, .inl x3]) (cv := cvV) (host := none) (st := []) h (fun q h l => s_M_remove d x0 x4 0 x3 q7.2 q h l D) hc_5 rfl d_M_copy_113 wm_M_66 wc_M_remove rfl (Nat.le_of_ble_eq_true rfl) (fun q8 h => ?_)
        show V _ _ _ _ _ _ _ ([]) _
        refine x_aload_n 0 d_M_copy_116 rfl rfl ?_
        refine x_iconst (v := 3) d_M_copy_117 (by decide) ?_
        refine x_callV' (M' := m_M_raise) (ax := [.inl 3]) (cv := cvI) (host := none) (st := []) h (fun q h l => s_M_raise d x0 3 q8.2 q h l D) hc_5 rfl d_M_copy_118 wm_M_49 wc_M_raise rfl (Nat.le_of_ble_eq_true rfl) (fun q9 h => ?_)
        show V _ _ _ _ _ _ _ (.int q9.1 :: []) _
        cases h
        exact x_iret rfl d_M_copy_121
      · refine x_aload_n 0 d_M_copy_101 rfl rfl ?_
        refine x_iload 4 d_M_copy_102 rfl ?_
        refine x_callV' (M' := m_M_pieces) (ax := [.inl x4]) (cv := cvI) (host := none) (st := []) h (fun q h l => s_M_pieces d x0 x4 q7.2 q h l D) hc_5 rfl d_M_copy_104 wm_M_55 wc_M_pieces rfl (Nat.le_of_ble_eq_true rfl) (fun q10 h => ?_)
        show V _ _ _ _ _ _ _ (.int q10.1 :: []) _
        cases h
        exact x_iret rfl d_M_copy_107
    · refine x_aload_n 0 d_M_copy_70 rfl rfl ?_
      refine x_iconst (v := 3) d_M_copy_71 (by decide) ?_
      refine x_callV' (M' := m_M_raise) (ax := [.inl 3]) (cv := cvI) (host := none) (st := []) h (fun q h l => s_M_raise d x0 3 S1 q h l D) hc_5 rfl d_M_copy_72 wm_M_49 wc_M_raise rfl (Nat.le_of_ble_eq_true rfl) (fun q11 h => ?_)
      show V _ _ _ _ _ _ _ (.int q11.1 :: []) _
      cases h
      exact x_iret rfl d_M_copy_75
  · refine x_iconst (v := 0) d_M_copy_53 (by decide) ?_
    cases h
    exact x_iret rfl d_M_copy_54
set_option maxRecDepth 100000 in
set_option maxHeartbeats 4000000 in
theorem tb_M_copy_38 {D : xD} {d : Nat} {S0 : xS} : ∀ (x0 : Option Nat) (x1 : Int32) (x2 : Int32) (x3 : Int32) (x4 : Int32) (y0 : Option Nat) (S : xS) (z : Int32 × xS), b_M_copy_38 d x0 x1 x2 x3 x4 y0 S = some z → V m_M_copy D (d + 1) S0 (cvI z) 38 [(0, .inr (.inr x0)), (1, .inl x1), (2, .inl x2), (3, .inl x3), (4, .inl x4)] [va_rf y0] S := by
  intro x0 x1 x2 x3 x4 y0 S z h
  unfold b_M_copy_38 at h
  refine x_iconst (v := 2) d_M_copy_38 (by decide) ?_
  refine x_goto (tgt := 43) d_M_copy_39 (by decide) ?_
  refine x_ls [0, 1, 2, 3, 4] rfl ?_
  exact tb_M_copy_43 x0 x1 x2 x3 x4 2 y0 S _ h
set_option maxRecDepth 100000 in
set_option maxHeartbeats 4000000 in
theorem tb_M_copy_19 {D : xD} {d : Nat} {S0 : xS} : ∀ (x0 : Option Nat) (x1 : Int32) (x2 : Int32) (x3 : Int32) (x4 : Int32) (y0 : Option Nat) (S : xS) (z : Int32 × xS), b_M_copy_19 d x0 x1 x2 x3 x4 y0 S = some z → V m_M_copy D (d + 1) S0 (cvI z) 19 [(0, .inr (.inr x0)), (1, .inl x1), (2, .inl x2), (3, .inl x3), (4, .inl x4)] [va_rf y0] S := by
  intro x0 x1 x2 x3 x4 y0 S z h
  unfold b_M_copy_19 at h
  refine x_iconst (v := 1) d_M_copy_19 (by decide) ?_
  refine x_goto (tgt := 43) d_M_copy_20 (by decide) ?_
  refine x_ls [0, 1, 2, 3, 4] rfl ?_
  exact tb_M_copy_43 x0 x1 x2 x3 x4 1 y0 S _ h
set_option maxRecDepth 100000 in
set_option maxHeartbeats 4000000 in
theorem te_M_copy {D : xD} {d : Nat} {S0 : xS} : ∀ (p0 : Option Nat) (p1 : Int32) (p2 : Int32) (p3 : Int32) (p4 : Int32) (S : xS) (z : Int32 × xS), e_M_copy d p0 p1 p2 p3 p4 S = some z → V m_M_copy D (d + 1) S0 (cvI z) 0 [(0, .inr (.inr p0)), (1, .inl p1), (2, .inl p2), (3, .inl p3), (4, .inl p4)] [] S := by
  intro p0 p1 p2 p3 p4 S z h
  unfold e_M_copy at h
  refine x_aload_n 0 d_M_copy_0 rfl rfl ?_
  refine x_aload_n 0 d_M_copy_1 rfl rfl ?_
  refine x_iload_n 1 d_M_copy_2 rfl rfl ?_
  refine x_iload_n 2 d_M_copy_3 rfl rfl ?_
  refine x_iload_n 3 d_M_copy_4 rfl rfl ?_
  refine x_callV' (M' := m_M_isRange) (ax := [.inl p1, .inl p2, .inl p3]) (cv := cvI) (host := none) (st := [va_rf p0]) h (fun q h l => s_M_isRange d p0 p1 p2 p3 S q h l D) hc_5 rfl d_M_copy_5 wm_M_69 wc_M_isRange rfl (Nat.le_of_ble_eq_true rfl) (fun q1 h => ?_)
  show V _ _ _ _ _ _ _ (.int q1.1 :: va_rf p0 :: []) _
  refine x_if_eq (tgt := 19) d_M_copy_8 (by decide) h (fun h => ?_) (fun h => ?_)
  · refine x_ls [0, 1, 2, 3, 4] rfl ?_
    exact tb_M_copy_19 p0 p1 p2 p3 p4 p0 q1.2 _ h
  · refine x_iload 4 d_M_copy_11 rfl ?_
    refine x_callS' (M' := m_M_isText) (ax := [.inl p4]) (cv := cvI) (host := none) (st := [va_rf p0]) h (fun q h l => s_M_isText d p4 q1.2 q h l D) rfl d_M_copy_13 wm_M_32 wc_M_isText rfl (Nat.le_of_ble_eq_true rfl) (fun q2 h => ?_)
    show V _ _ _ _ _ _ _ (.int q2.1 :: va_rf p0 :: []) _
    refine x_if_ne (tgt := 23) d_M_copy_16 (by decide) h (fun h => ?_) (fun h => ?_)
    · refine x_iload 4 d_M_copy_23 rfl ?_
      refine x_iload_n 1 d_M_copy_25 rfl rfl ?_
      refine x_icmp_eq (tgt := 38) d_M_copy_26 (by decide) h (fun h => ?_) (fun h => ?_)
      · refine x_ls [0, 1, 2, 3, 4] rfl ?_
        exact tb_M_copy_38 p0 p1 p2 p3 p4 p0 q2.2 _ h
      · refine x_aload_n 0 d_M_copy_29 rfl rfl ?_
        refine x_iload 4 d_M_copy_30 rfl ?_
        refine x_callV' (M' := m_M_size) (ax := [.inl p4]) (cv := cvI) (host := none) (st := [va_rf p0]) h (fun q h l => s_M_size d p0 p4 q2.2 q h l D) hc_5 rfl d_M_copy_32 wm_M_36 wc_M_size rfl (Nat.le_of_ble_eq_true rfl) (fun q3 h => ?_)
        show V _ _ _ _ _ _ _ (.int q3.1 :: va_rf p0 :: []) _
        refine x_if_le (tgt := 42) d_M_copy_35 (by decide) h (fun h => ?_) (fun h => ?_)
        · refine x_iconst (v := 0) d_M_copy_42 (by decide) ?_
          refine x_ls [0, 1, 2, 3, 4] rfl ?_
          exact tb_M_copy_43 p0 p1 p2 p3 p4 0 p0 q3.2 _ h
        · refine x_ls [0, 1, 2, 3, 4] rfl ?_
          exact tb_M_copy_38 p0 p1 p2 p3 p4 p0 q3.2 _ h
    · refine x_ls [0, 1, 2, 3, 4] rfl ?_
      exact tb_M_copy_19 p0 p1 p2 p3 p4 p0 q2.2 _ h
theorem s_M_copy : ∀ (d : Nat) (p0 : Option Nat) (p1 : Int32) (p2 : Int32) (p3 : Int32) (p4 : Int32) (S : xS) (z : Int32 × xS), f_M_copy d p0 p1 p2 p3 p4 S = some z → ∀ (l : Launch) (D : xD), xMet l m_M_copy D d [.inr (.inr p0), .inl p1, .inl p2, .inl p3, .inl p4] S (cvI z) := by
  intro d
  induction d with
  | zero =>
    intro p0 p1 p2 p3 p4 S z h
    cases h
  | succ d ih =>
    intro p0 p1 p2 p3 p4 S z h l D
    exact x_ofV rfl (by decide) (Nat.le_of_ble_eq_true rfl) (te_M_copy  p0 p1 p2 p3 p4 S z h)
set_option maxRecDepth 100000 in
set_option maxHeartbeats 4000000 in
theorem tb_M_tag_110 {D : xD} {d : Nat} {S0 : xS} {k110 : Option Nat → Int32 → Int32 → Int32 → xS → Option (Int32 × xS)} (hk110 : ∀ (x0 : Option Nat) (x3 : Int32) (x6 : Int32) (x7 : Int32)  (S : xS) (z : Int32 × xS), k110 x0 x3 x6 x7 S = some z → V m_M_tag D (d + 1) S0 (cvI z) 110 [(0, .inr (.inr x0)), (3, .inl x3), (6, .inl x6), (7, .inl x7)] [] S) : ∀ (x0 : Option Nat) (x3 : Int32) (x6 : Int32) (x7 : Int32) (S : xS) (z : Int32 × xS), b_M_tag_110 d k110 x0 x3 x6 x7 S = some z → V m_M_tag D (d + 1) S0 (cvI z) 110 [(0, .inr (.inr x0)), (3, .inl x3), (6, .inl x6), (7, .inl x7)] [] S := by
  intro x0 x3 x6 x7 S z h
  unfold b_M_tag_110 at h
  refine x_iload 3 d_M_tag_110 rfl ?_
  refine x_iload_n 1 d_M_tag_112 rfl rfl ?_
  refine x_icmp_ge (tgt := 139) d_M_tag_113 (by decide) h (fun h => ?_) (fun h => ?_)
  · refine x_aload_n 0 d_M_tag_139 rfl rfl ?_
    refine x_iconst (v := 2) d_M_tag_140 (by decide) ?_
    refine x_callV' (M' := m_M_raise) (ax := [.inl 2]) (cv := cvI) (host := none) (st := []) h (fun q h l => s_M_raise d x0 2 S q h l D) hc_5 rfl d_M_tag_141 wm_M_49 wc_M_raise rfl (Nat.le_of_ble_eq_true rfl) (fun q1 h => ?_)
    show V _ _ _ _ _ _ _ (.int q1.1 :: []) _
    cases h
    exact x_iret rfl d_M_tag_144
  · refine x_aload_n 0 d_M_tag_116 rfl rfl ?_
    refine x_getR (host := none) h hc_5 hi_5 (by decide) wf_M_19 d_M_tag_117 (fun v2 h => ?_)
    refine x_iload 2 d_M_tag_120 rfl ?_
    refine x_iload 3 d_M_tag_122 rfl ?_
    refine x_iadd d_M_tag_124 ?_
    refine x_aload_n 0 d_M_tag_125 rfl rfl ?_
    refine x_getR (host := none) h hc_5 hi_5 (by decide) wf_M_25 d_M_tag_126 (fun v3 h => ?_)
    refine x_iload 3 d_M_tag_129 rfl ?_
    refine x_iald h ha_3 d_M_tag_131 (fun v4 h => ?_)
    refine x_iast h ha_3 d_M_tag_132 (fun S5 h => ?_)
    refine x_iinc (v := 1) (lv' := [(7, .inl (x7 + 1)), (0, .inr (.inr x0)), (3, .inl x3), (6, .inl x6)]) 3 d_M_tag_133 rfl (by decide) (by decide) rfl ?_
    refine x_goto (tgt := 110) d_M_tag_136 (by decide) ?_
    refine x_ls [1, 2, 3, 0] rfl ?_
    exact hk110 x0 x3 x6 (x7 + 1) S5 _ h
theorem tl_M_tag_110 {D : xD} {d : Nat} {S0 : xS} : ∀ (n : Nat) (x0 : Option Nat) (x3 : Int32) (x6 : Int32) (x7 : Int32) (S : xS) (z : Int32 × xS), l_M_tag_110 d n x0 x3 x6 x7 S = some z → V m_M_tag D (d + 1) S0 (cvI z) 110 [(0, .inr (.inr x0)), (3, .inl x3), (6, .inl x6), (7, .inl x7)] [] S := by
  intro n
  induction n with
  | zero =>
    intro x0 x3 x6 x7 S z h
    cases h
  | succ n ih =>
    intro x0 x3 x6 x7 S z h
    exact tb_M_tag_110  ih x0 x3 x6 x7 S z h
set_option maxRecDepth 100000 in
set_option maxHeartbeats 4000000 in
theorem tb_M_tag_48 {D : xD} {d : Nat} {S0 : xS} {k48 : Option Nat → Int32 → Int32 → Int32 → Int32 → Int32 → Int32 → xS → Option (Int32 × xS)} (hk48 : ∀ (x0 : Option Nat) (x1 : Int32) (x3 : Int32) (x4 : Int32) (x5 : Int32) (x6 : Int32) (x7 : Int32)  (S : xS) (z : Int32 × xS), k48 x0 x1 x3 x4 x5 x6 x7 S = some z → V m_M_tag D (d + 1) S0 (cvI z) 48 [(0, .inr (.inr x0)), (1, .inl x1), (3, .inl x3), (4, .inl x4), (5, .inl x5), (6, .inl x6), (7, .inl x7)] [] S) : ∀ (x0 : Option Nat) (x1 : Int32) (x3 : Int32) (x4 : Int32) (x5 : Int32) (x6 : Int32) (x7 : Int32) (S : xS) (z : Int32 × xS), b_M_tag_48 d k48 x0 x1 x3 x4 x5 x6 x7 S = some z → V m_M_tag D (d + 1) S0 (cvI z) 48 [(0, .inr (.inr x0)), (1, .inl x1), (3, .inl x3), (4, .inl x4), (5, .inl x5), (6, .inl x6), (7, .inl x7)] [] S := by
  intro x0 x1 x3 x4 x5 x6 x7 S z h
  unfold b_M_tag_48 at h
  refine x_iload 6 d_M_tag_48 rfl ?_
  refine x_iload_n 2 d_M_tag_50 rfl rfl ?_
  refine x_icmp_ge (tgt := 91) d_M_tag_51 (by decide) h (fun h => ?_) (fun h => ?_)
  · refine x_aload_n 0 d_M_tag_91 rfl rfl ?_
    refine x_callV' (M' := m_M_allPieces) (ax := []) (cv := cvI) (host := none) (st := []) h (fun q h l => s_M_allPieces d x0 S q h l D) hc_5 rfl d_M_tag_92 wm_M_62 wc_M_allPieces rfl (Nat.le_of_ble_eq_true rfl) (fun q1 h => ?_)
    show V _ _ _ _ _ _ _ (.int q1.1 :: []) _
    refine x_sipush (v := 1024) d_M_tag_95 (by decide) ?_
    refine x_icmp_gt (tgt := 107) d_M_tag_98 (by decide) h (fun h => ?_) (fun h => ?_)
    · refine x_iconst (v := 0) d_M_tag_107 (by decide) ?_
      refine x_istore (lv' := [(7, .inl 0), (0, .inr (.inr x0)), (1, .inl x1), (3, .inl x3), (4, .inl x4), (5, .inl x5), (6, .inl x6)]) d_M_tag_108 (by decide) rfl ?_
      refine x_ls [1, 3, 6, 0] rfl ?_
      exact tl_M_tag_110 xN x0 x3 x6 0 q1.2 _ h
    · refine x_aload_n 0 d_M_tag_101 rfl rfl ?_
      refine x_iload_n 1 d_M_tag_102 rfl rfl ?_
      refine x_callV' (M' := m_M_pieces) (ax := [.inl x1]) (cv := cvI) (host := none) (st := []) h (fun q h l => s_M_pieces d x0 x1 q1.2 q h l D) hc_5 rfl d_M_tag_103 wm_M_55 wc_M_pieces rfl (Nat.le_of_ble_eq_true rfl) (fun q2 h => ?_)
      show V _ _ _ _ _ _ _ (.int q2.1 :: []) _
      cases h
      exact x_iret rfl d_M_tag_106
  · refine x_aload_n 0 d_M_tag_54 rfl rfl ?_
    refine x_getR (host := none) h hc_5 hi_5 (by decide) wf_M_19 d_M_tag_55 (fun v3 h => ?_)
    refine x_iload 5 d_M_tag_58 rfl ?_
    refine x_iload 6 d_M_tag_60 rfl ?_
    refine x_iadd d_M_tag_62 ?_
    refine x_aload_n 0 d_M_tag_63 rfl rfl ?_
    refine x_getR (host := none) h hc_5 hi_5 (by decide) wf_M_19 d_M_tag_64 (fun v4 h => ?_)
    refine x_iload 5 d_M_tag_67 rfl ?_
    refine x_iload 6 d_M_tag_69 rfl ?_
    refine x_iadd d_M_tag_71 ?_
    refine x_iald h ha_3 d_M_tag_72 (fun v5 h => ?_)
    refine x_iload 3 d_M_tag_73 rfl ?_
    refine x_iconst (v := (-1)) d_M_tag_75 (by decide) ?_
    refine x_ixor d_M_tag_76 ?_
    refine x_iand d_M_tag_77 ?_
    refine x_iload 4 d_M_tag_78 rfl ?_
    refine x_iload 3 d_M_tag_80 rfl ?_
    refine x_iand d_M_tag_82 ?_
    refine x_ior d_M_tag_83 ?_
    refine x_iast h ha_3 d_M_tag_84 (fun S6 h => ?_)
    refine x_iinc (v := 1) (lv' := [(7, .inl (x7 + 1)), (0, .inr (.inr x0)), (1, .inl x1), (3, .inl x3), (4, .inl x4), (5, .inl x5), (6, .inl x6)]) 6 d_M_tag_85 rfl (by decide) (by decide) rfl ?_
    refine x_goto (tgt := 48) d_M_tag_88 (by decide) ?_
    refine x_ls [1, 2, 3, 4, 5, 6, 0] rfl ?_
    exact hk48 x0 x1 x3 x4 x5 x6 (x7 + 1) S6 _ h
theorem tl_M_tag_48 {D : xD} {d : Nat} {S0 : xS} : ∀ (n : Nat) (x0 : Option Nat) (x1 : Int32) (x3 : Int32) (x4 : Int32) (x5 : Int32) (x6 : Int32) (x7 : Int32) (S : xS) (z : Int32 × xS), l_M_tag_48 d n x0 x1 x3 x4 x5 x6 x7 S = some z → V m_M_tag D (d + 1) S0 (cvI z) 48 [(0, .inr (.inr x0)), (1, .inl x1), (3, .inl x3), (4, .inl x4), (5, .inl x5), (6, .inl x6), (7, .inl x7)] [] S := by
  intro n
  induction n with
  | zero =>
    intro x0 x1 x3 x4 x5 x6 x7 S z h
    cases h
  | succ n ih =>
    intro x0 x1 x3 x4 x5 x6 x7 S z h
    exact tb_M_tag_48  ih x0 x1 x3 x4 x5 x6 x7 S z h
set_option maxRecDepth 100000 in
set_option maxHeartbeats 4000000 in
theorem tb_M_tag_16 {D : xD} {d : Nat} {S0 : xS} : ∀ (x0 : Option Nat) (x1 : Int32) (x2 : Int32) (x3 : Int32) (x4 : Int32) (x5 : Int32) (y0 : Int32) (y1 : Option Nat) (S : xS) (z : Int32 × xS), b_M_tag_16 d x0 x1 x2 x3 x4 x5 y0 y1 S = some z → V m_M_tag D (d + 1) S0 (cvI z) 16 [(0, .inr (.inr x0)), (1, .inl x1), (2, .inl x2), (3, .inl x3), (4, .inl x4), (5, .inl x5)] [.int y0, va_rf y1] S := by
  intro x0 x1 x2 x3 x4 x5 y0 y1 S z h
  unfold b_M_tag_16 at h
  refine x_put (host := none) h hc_5 hi_5 tyX_5 ht_5 hn_5 (by decide) rfl rfl rfl wf_M_28 d_M_tag_16 (fun S1 h => ?_)
  refine x_aload_n 0 d_M_tag_19 rfl rfl ?_
  refine x_getI (host := none) h hc_5 hi_5 (by decide) wf_M_28 d_M_tag_20 (fun v2 h => ?_)
  refine x_if_le (tgt := 28) d_M_tag_23 (by decide) h (fun h => ?_) (fun h => ?_)
  · refine x_aload_n 0 d_M_tag_28 rfl rfl ?_
    refine x_iload_n 1 d_M_tag_29 rfl rfl ?_
    refine x_iload_n 2 d_M_tag_30 rfl rfl ?_
    refine x_iload_n 3 d_M_tag_31 rfl rfl ?_
    refine x_callV' (M' := m_M_keep) (ax := [.inl x1, .inl x2, .inl x3]) (cv := cvV) (host := none) (st := []) h (fun q h l => s_M_keep d x0 x1 x2 x3 S1 q h l D) hc_5 rfl d_M_tag_32 wm_M_73 wc_M_keep rfl (Nat.le_of_ble_eq_true rfl) (fun q3 h => ?_)
    show V _ _ _ _ _ _ _ ([]) _
    refine x_aload_n 0 d_M_tag_35 rfl rfl ?_
    refine x_getR (host := none) h hc_5 hi_5 (by decide) wf_M_13 d_M_tag_36 (fun v4 h => ?_)
    refine x_iload_n 1 d_M_tag_39 rfl rfl ?_
    refine x_iald h ha_3 d_M_tag_40 (fun v5 h => ?_)
    refine x_iload_n 2 d_M_tag_41 rfl rfl ?_
    refine x_iadd d_M_tag_42 ?_
    refine x_istore (lv' := [(6, .inl (v5 + x2)), (0, .inr (.inr x0)), (1, .inl x1), (2, .inl x2), (3, .inl x3), (4, .inl x4), (5, .inl x5)]) d_M_tag_43 (by decide) rfl ?_
    refine x_iconst (v := 0) d_M_tag_45 (by decide) ?_
    refine x_istore (lv' := [(7, .inl 0), (6, .inl (v5 + x2)), (0, .inr (.inr x0)), (1, .inl x1), (2, .inl x2), (3, .inl x3), (4, .inl x4), (5, .inl x5)]) d_M_tag_46 (by decide) rfl ?_
    refine x_ls [2, 3, 5, 6, 7, 1, 0] rfl ?_
    exact tl_M_tag_48 xN x0 x1 x3 x4 x5 (v5 + x2) 0 q3.2 _ h
  · refine x_iconst (v := 0) d_M_tag_26 (by decide) ?_
    cases h
    exact x_iret rfl d_M_tag_27
set_option maxRecDepth 100000 in
set_option maxHeartbeats 4000000 in
theorem te_M_tag {D : xD} {d : Nat} {S0 : xS} : ∀ (p0 : Option Nat) (p1 : Int32) (p2 : Int32) (p3 : Int32) (p4 : Int32) (p5 : Int32) (S : xS) (z : Int32 × xS), e_M_tag d p0 p1 p2 p3 p4 p5 S = some z → V m_M_tag D (d + 1) S0 (cvI z) 0 [(0, .inr (.inr p0)), (1, .inl p1), (2, .inl p2), (3, .inl p3), (4, .inl p4), (5, .inl p5)] [] S := by
  intro p0 p1 p2 p3 p4 p5 S z h
  unfold e_M_tag at h
  refine x_aload_n 0 d_M_tag_0 rfl rfl ?_
  refine x_aload_n 0 d_M_tag_1 rfl rfl ?_
  refine x_iload_n 1 d_M_tag_2 rfl rfl ?_
  refine x_iload_n 2 d_M_tag_3 rfl rfl ?_
  refine x_iload_n 3 d_M_tag_4 rfl rfl ?_
  refine x_callV' (M' := m_M_isRange) (ax := [.inl p1, .inl p2, .inl p3]) (cv := cvI) (host := none) (st := [va_rf p0]) h (fun q h l => s_M_isRange d p0 p1 p2 p3 S q h l D) hc_5 rfl d_M_tag_5 wm_M_69 wc_M_isRange rfl (Nat.le_of_ble_eq_true rfl) (fun q1 h => ?_)
  show V _ _ _ _ _ _ _ (.int q1.1 :: va_rf p0 :: []) _
  refine x_if_eq (tgt := 15) d_M_tag_8 (by decide) h (fun h => ?_) (fun h => ?_)
  · refine x_iconst (v := 1) d_M_tag_15 (by decide) ?_
    refine x_ls [0, 1, 2, 3, 4, 5] rfl ?_
    exact tb_M_tag_16 p0 p1 p2 p3 p4 p5 1 p0 q1.2 _ h
  · refine x_iconst (v := 0) d_M_tag_11 (by decide) ?_
    refine x_goto (tgt := 16) d_M_tag_12 (by decide) ?_
    refine x_ls [0, 1, 2, 3, 4, 5] rfl ?_
    exact tb_M_tag_16 p0 p1 p2 p3 p4 p5 0 p0 q1.2 _ h
theorem s_M_tag : ∀ (d : Nat) (p0 : Option Nat) (p1 : Int32) (p2 : Int32) (p3 : Int32) (p4 : Int32) (p5 : Int32) (S : xS) (z : Int32 × xS), f_M_tag d p0 p1 p2 p3 p4 p5 S = some z → ∀ (l : Launch) (D : xD), xMet l m_M_tag D d [.inr (.inr p0), .inl p1, .inl p2, .inl p3, .inl p4, .inl p5] S (cvI z) := by
  intro d
  induction d with
  | zero =>
    intro p0 p1 p2 p3 p4 p5 S z h
    cases h
  | succ d ih =>
    intro p0 p1 p2 p3 p4 p5 S z h l D
    exact x_ofV rfl (by decide) (Nat.le_of_ble_eq_true rfl) (te_M_tag  p0 p1 p2 p3 p4 p5 S z h)
set_option maxRecDepth 100000 in
set_option maxHeartbeats 4000000 in
theorem tb_M_wipe_13 {D : xD} {d : Nat} {S0 : xS} : ∀ (x0 : Option Nat) (x1 : Int32) (y0 : Int32) (y1 : Option Nat) (S : xS) (z : Int32 × xS), b_M_wipe_13 d x0 x1 y0 y1 S = some z → V m_M_wipe D (d + 1) S0 (cvI z) 13 [(0, .inr (.inr x0)), (1, .inl x1)] [.int y0, va_rf y1] S := by
  intro x0 x1 y0 y1 S z h
  unfold b_M_wipe_13 at h
  refine x_put (host := none) h hc_5 hi_5 tyX_5 ht_5 hn_5 (by decide) rfl rfl rfl wf_M_28 d_M_wipe_13 (fun S1 h => ?_)
  refine x_aload_n 0 d_M_wipe_16 rfl rfl ?_
  refine x_getI (host := none) h hc_5 hi_5 (by decide) wf_M_28 d_M_wipe_17 (fun v2 h => ?_)
  refine x_if_le (tgt := 25) d_M_wipe_20 (by decide) h (fun h => ?_) (fun h => ?_)
  · refine x_aload_n 0 d_M_wipe_25 rfl rfl ?_
    refine x_iload_n 1 d_M_wipe_26 rfl rfl ?_
    refine x_callV' (M' := m_M_size) (ax := [.inl x1]) (cv := cvI) (host := none) (st := []) h (fun q h l => s_M_size d x0 x1 S1 q h l D) hc_5 rfl d_M_wipe_27 wm_M_36 wc_M_size rfl (Nat.le_of_ble_eq_true rfl) (fun q3 h => ?_)
    show V _ _ _ _ _ _ _ (.int q3.1 :: []) _
    refine x_istore_n (lv' := [(2, .inl q3.1), (0, .inr (.inr x0)), (1, .inl x1)]) d_M_wipe_30 rfl (by decide) rfl ?_
    refine x_aload_n 1 d_M_wipe_31 rfl rfl ?_
    refine x_iload_n 2 d_M_wipe_32 rfl rfl ?_
    refine x_iconst (v := 0) d_M_wipe_33 (by decide) ?_
    refine x_iload_n 0 d_M_wipe_34 rfl rfl ?_
    refine x_callV' (M' := m_M_remove) (ax := [.inl x1, .inl 0, .inl q3.1]) (cv := cvV) (host := none) (st := []) h (fun q h l => s_M_remove d x0 x1 0 q3.1 q3.2 q h l D) hc_5 rfl d_M_wipe_35 wm_M_66 wc_M_remove rfl (Nat.le_of_ble_eq_true rfl) (fun q4 h => ?_)
    show V _ _ _ _ _ _ _ ([]) _
    refine x_iload_n 0 d_M_wipe_38 rfl rfl ?_
    cases h
    exact x_iret rfl d_M_wipe_39
  · refine x_iconst (v := 0) d_M_wipe_23 (by decide) ?_
    cases h
    exact x_iret rfl d_M_wipe_24
set_option maxRecDepth 100000 in
set_option maxHeartbeats 4000000 in
theorem te_M_wipe {D : xD} {d : Nat} {S0 : xS} : ∀ (p0 : Option Nat) (p1 : Int32) (S : xS) (z : Int32 × xS), e_M_wipe d p0 p1 S = some z → V m_M_wipe D (d + 1) S0 (cvI z) 0 [(0, .inr (.inr p0)), (1, .inl p1)] [] S := by
  intro p0 p1 S z h
  unfold e_M_wipe at h
  refine x_aload_n 0 d_M_wipe_0 rfl rfl ?_
  refine x_iload_n 1 d_M_wipe_1 rfl rfl ?_
  refine x_callS' (M' := m_M_isText) (ax := [.inl p1]) (cv := cvI) (host := none) (st := [va_rf p0]) h (fun q h l => s_M_isText d p1 S q h l D) rfl d_M_wipe_2 wm_M_32 wc_M_isText rfl (Nat.le_of_ble_eq_true rfl) (fun q1 h => ?_)
  show V _ _ _ _ _ _ _ (.int q1.1 :: va_rf p0 :: []) _
  refine x_if_eq (tgt := 12) d_M_wipe_5 (by decide) h (fun h => ?_) (fun h => ?_)
  · refine x_iconst (v := 1) d_M_wipe_12 (by decide) ?_
    refine x_ls [0, 1] rfl ?_
    exact tb_M_wipe_13 p0 p1 1 p0 q1.2 _ h
  · refine x_iconst (v := 0) d_M_wipe_8 (by decide) ?_
    refine x_goto (tgt := 13) d_M_wipe_9 (by decide) ?_
    refine x_ls [0, 1] rfl ?_
    exact tb_M_wipe_13 p0 p1 0 p0 q1.2 _ h
theorem s_M_wipe : ∀ (d : Nat) (p0 : Option Nat) (p1 : Int32) (S : xS) (z : Int32 × xS), f_M_wipe d p0 p1 S = some z → ∀ (l : Launch) (D : xD), xMet l m_M_wipe D d [.inr (.inr p0), .inl p1] S (cvI z) := by
  intro d
  induction d with
  | zero =>
    intro p0 p1 S z h
    cases h
  | succ d ih =>
    intro p0 p1 S z h l D
    exact x_ofV rfl (by decide) (Nat.le_of_ble_eq_true rfl) (te_M_wipe  p0 p1 S z h)
set_option maxRecDepth 100000 in
set_option maxHeartbeats 4000000 in
theorem tb_M_length_21 {D : xD} {d : Nat} {S0 : xS} : ∀ (y0 : Int32) (S : xS) (z : Int32 × xS), b_M_length_21 d y0 S = some z → V m_M_length D (d + 1) S0 (cvI z) 21 [] [.int y0] S := by
  intro y0 S z h
  unfold b_M_length_21 at h
  cases h
  exact x_iret rfl d_M_length_21
set_option maxRecDepth 100000 in
set_option maxHeartbeats 4000000 in
theorem te_M_length {D : xD} {d : Nat} {S0 : xS} : ∀ (p0 : Option Nat) (p1 : Int32) (S : xS) (z : Int32 × xS), e_M_length d p0 p1 S = some z → V m_M_length D (d + 1) S0 (cvI z) 0 [(0, .inr (.inr p0)), (1, .inl p1)] [] S := by
  intro p0 p1 S z h
  unfold e_M_length at h
  refine x_aload_n 0 d_M_length_0 rfl rfl ?_
  refine x_iconst (v := 0) d_M_length_1 (by decide) ?_
  refine x_put (host := none) h hc_5 hi_5 tyX_5 ht_5 hn_5 (by decide) rfl rfl rfl wf_M_28 d_M_length_2 (fun S1 h => ?_)
  refine x_iload_n 1 d_M_length_5 rfl rfl ?_
  refine x_callS' (M' := m_M_isText) (ax := [.inl p1]) (cv := cvI) (host := none) (st := []) h (fun q h l => s_M_isText d p1 S1 q h l D) rfl d_M_length_6 wm_M_32 wc_M_isText rfl (Nat.le_of_ble_eq_true rfl) (fun q2 h => ?_)
  show V _ _ _ _ _ _ _ (.int q2.1 :: []) _
  refine x_if_eq (tgt := 20) d_M_length_9 (by decide) h (fun h => ?_) (fun h => ?_)
  · refine x_iconst (v := (-1)) d_M_length_20 (by decide) ?_
    refine x_ls [] rfl ?_
    exact tb_M_length_21 ((-1)) q2.2 _ h
  · refine x_aload_n 0 d_M_length_12 rfl rfl ?_
    refine x_iload_n 1 d_M_length_13 rfl rfl ?_
    refine x_callV' (M' := m_M_size) (ax := [.inl p1]) (cv := cvI) (host := none) (st := []) h (fun q h l => s_M_size d p0 p1 q2.2 q h l D) hc_5 rfl d_M_length_14 wm_M_36 wc_M_size rfl (Nat.le_of_ble_eq_true rfl) (fun q3 h => ?_)
    show V _ _ _ _ _ _ _ (.int q3.1 :: []) _
    refine x_goto (tgt := 21) d_M_length_17 (by decide) ?_
    refine x_ls [] rfl ?_
    exact tb_M_length_21 q3.1 q3.2 _ h
theorem s_M_length : ∀ (d : Nat) (p0 : Option Nat) (p1 : Int32) (S : xS) (z : Int32 × xS), f_M_length d p0 p1 S = some z → ∀ (l : Launch) (D : xD), xMet l m_M_length D d [.inr (.inr p0), .inl p1] S (cvI z) := by
  intro d
  induction d with
  | zero =>
    intro p0 p1 S z h
    cases h
  | succ d ih =>
    intro p0 p1 S z h l D
    exact x_ofV rfl (by decide) (Nat.le_of_ble_eq_true rfl) (te_M_length  p0 p1 S z h)
set_option maxRecDepth 100000 in
set_option maxHeartbeats 4000000 in
theorem tb_M_look_154 {D : xD} {d : Nat} {S0 : xS} : ∀ (y0 : Int32) (S : xS) (z : Int32 × xS), b_M_look_154 d y0 S = some z → V m_M_look D (d + 1) S0 (cvI z) 154 [] [.int y0] S := by
  intro y0 S z h
  unfold b_M_look_154 at h
  cases h
  exact x_iret rfl d_M_look_154
set_option maxRecDepth 100000 in
set_option maxHeartbeats 4000000 in
theorem tb_M_look_94 {D : xD} {d : Nat} {S0 : xS} {k70 : Option Nat → Int32 → Int32 → Int32 → Int32 → Int32 → xS → Option (Int32 × xS)} (hk70 : ∀ (x0 : Option Nat) (x1 : Int32) (x3 : Int32) (x4 : Int32) (x5 : Int32) (x6 : Int32)  (S : xS) (z : Int32 × xS), k70 x0 x1 x3 x4 x5 x6 S = some z → V m_M_look D (d + 1) S0 (cvI z) 70 [(0, .inr (.inr x0)), (1, .inl x1), (3, .inl x3), (4, .inl x4), (5, .inl x5), (6, .inl x6)] [] S) : ∀ (x0 : Option Nat) (x1 : Int32) (x3 : Int32) (x4 : Int32) (x6 : Int32) (y0 : Int32) (y1 : Int32) (S : xS) (z : Int32 × xS), b_M_look_94 d k70 x0 x1 x3 x4 x6 y0 y1 S = some z → V m_M_look D (d + 1) S0 (cvI z) 94 [(0, .inr (.inr x0)), (1, .inl x1), (3, .inl x3), (4, .inl x4), (6, .inl x6)] [.int y0, .int y1] S := by
  intro x0 x1 x3 x4 x6 y0 y1 S z h
  unfold b_M_look_94 at h
  refine x_iadd d_M_look_94 ?_
  refine x_istore (lv' := [(5, .inl (y1 + y0)), (0, .inr (.inr x0)), (1, .inl x1), (3, .inl x3), (4, .inl x4), (6, .inl x6)]) d_M_look_95 (by decide) rfl ?_
  refine x_iinc (v := 1) (lv' := [(6, .inl (x6 + 1)), (5, .inl (y1 + y0)), (0, .inr (.inr x0)), (1, .inl x1), (3, .inl x3), (4, .inl x4)]) 5 d_M_look_97 rfl (by decide) (by decide) rfl ?_
  refine x_goto (tgt := 70) d_M_look_100 (by decide) ?_
  refine x_ls [2, 3, 4, 5, 1, 0] rfl ?_
  exact hk70 x0 x1 x3 x4 (y1 + y0) (x6 + 1) S _ h
set_option maxRecDepth 100000 in
set_option maxHeartbeats 4000000 in
theorem tb_M_look_70 {D : xD} {d : Nat} {S0 : xS} {k70 : Option Nat → Int32 → Int32 → Int32 → Int32 → Int32 → xS → Option (Int32 × xS)} (hk70 : ∀ (x0 : Option Nat) (x1 : Int32) (x3 : Int32) (x4 : Int32) (x5 : Int32) (x6 : Int32)  (S : xS) (z : Int32 × xS), k70 x0 x1 x3 x4 x5 x6 S = some z → V m_M_look D (d + 1) S0 (cvI z) 70 [(0, .inr (.inr x0)), (1, .inl x1), (3, .inl x3), (4, .inl x4), (5, .inl x5), (6, .inl x6)] [] S) : ∀ (x0 : Option Nat) (x1 : Int32) (x3 : Int32) (x4 : Int32) (x5 : Int32) (x6 : Int32) (S : xS) (z : Int32 × xS), b_M_look_70 d k70 x0 x1 x3 x4 x5 x6 S = some z → V m_M_look D (d + 1) S0 (cvI z) 70 [(0, .inr (.inr x0)), (1, .inl x1), (3, .inl x3), (4, .inl x4), (5, .inl x5), (6, .inl x6)] [] S := by
  intro x0 x1 x3 x4 x5 x6 S z h
  unfold b_M_look_70 at h
  refine x_iload 5 d_M_look_70 rfl ?_
  refine x_iload 3 d_M_look_72 rfl ?_
  refine x_icmp_gt (tgt := 103) d_M_look_74 (by decide) h (fun h => ?_) (fun h => ?_)
  · refine x_iload_n 2 d_M_look_103 rfl rfl ?_
    refine x_if_ne (tgt := 122) d_M_look_104 (by decide) h (fun h => ?_) (fun h => ?_)
    · refine x_iload_n 2 d_M_look_122 rfl rfl ?_
      refine x_iconst (v := 1) d_M_look_123 (by decide) ?_
      refine x_icmp_ne (tgt := 137) d_M_look_124 (by decide) h (fun h => ?_) (fun h => ?_)
      · refine x_iload_n 2 d_M_look_137 rfl rfl ?_
        refine x_iconst (v := 2) d_M_look_138 (by decide) ?_
        refine x_icmp_ne (tgt := 152) d_M_look_139 (by decide) h (fun h => ?_) (fun h => ?_)
        · refine x_iload 4 d_M_look_152 rfl ?_
          refine x_ls [] rfl ?_
          exact tb_M_look_154 x5 S _ h
        · refine x_aload_n 0 d_M_look_142 rfl rfl ?_
          refine x_getR (host := none) h hc_5 hi_5 (by decide) wf_M_19 d_M_look_143 (fun v1 h => ?_)
          refine x_iload 3 d_M_look_146 rfl ?_
          refine x_iald h ha_3 d_M_look_148 (fun v2 h => ?_)
          refine x_goto (tgt := 154) d_M_look_149 (by decide) ?_
          refine x_ls [] rfl ?_
          exact tb_M_look_154 v2 S _ h
      · refine x_aload_n 0 d_M_look_127 rfl rfl ?_
        refine x_getR (host := none) h hc_5 hi_5 (by decide) wf_M_16 d_M_look_128 (fun v3 h => ?_)
        refine x_iload 3 d_M_look_131 rfl ?_
        refine x_iald h ha_3 d_M_look_133 (fun v4 h => ?_)
        refine x_goto (tgt := 154) d_M_look_134 (by decide) ?_
        refine x_ls [] rfl ?_
        exact tb_M_look_154 v4 S _ h
    · refine x_aload_n 0 d_M_look_107 rfl rfl ?_
      refine x_getR (host := none) h hc_5 hi_5 (by decide) wf_M_7 d_M_look_108 (fun v5 h => ?_)
      refine x_aload_n 0 d_M_look_111 rfl rfl ?_
      refine x_getR (host := none) h hc_5 hi_5 (by decide) wf_M_16 d_M_look_112 (fun v6 h => ?_)
      refine x_iload 3 d_M_look_115 rfl ?_
      refine x_iald h ha_3 d_M_look_117 (fun v7 h => ?_)
      refine x_iald h ha_3 d_M_look_118 (fun v8 h => ?_)
      refine x_goto (tgt := 154) d_M_look_119 (by decide) ?_
      refine x_ls [] rfl ?_
      exact tb_M_look_154 v8 S _ h
  · refine x_iload 4 d_M_look_77 rfl ?_
    refine x_aload_n 0 d_M_look_79 rfl rfl ?_
    refine x_iload_n 1 d_M_look_80 rfl rfl ?_
    refine x_iload 5 d_M_look_81 rfl ?_
    refine x_callV' (M' := m_M_parts) (ax := [.inl x1, .inl x6]) (cv := cvI) (host := none) (st := [.int x5]) h (fun q h l => s_M_parts d x0 x1 x6 S q h l D) hc_5 rfl d_M_look_83 wm_M_52 wc_M_parts rfl (Nat.le_of_ble_eq_true rfl) (fun q9 h => ?_)
    show V _ _ _ _ _ _ _ (.int q9.1 :: .int x5 :: []) _
    refine x_if_eq (tgt := 93) d_M_look_86 (by decide) h (fun h => ?_) (fun h => ?_)
    · refine x_iconst (v := 0) d_M_look_93 (by decide) ?_
      refine x_ls [0, 1, 2, 3, 5] rfl ?_
      exact tb_M_look_94 hk70 x0 x1 x3 x4 x6 0 x5 q9.2 _ h
    · refine x_iconst (v := 1) d_M_look_89 (by decide) ?_
      refine x_goto (tgt := 94) d_M_look_90 (by decide) ?_
      refine x_ls [0, 1, 2, 3, 5] rfl ?_
      exact tb_M_look_94 hk70 x0 x1 x3 x4 x6 1 x5 q9.2 _ h
theorem tl_M_look_70 {D : xD} {d : Nat} {S0 : xS} : ∀ (n : Nat) (x0 : Option Nat) (x1 : Int32) (x3 : Int32) (x4 : Int32) (x5 : Int32) (x6 : Int32) (S : xS) (z : Int32 × xS), l_M_look_70 d n x0 x1 x3 x4 x5 x6 S = some z → V m_M_look D (d + 1) S0 (cvI z) 70 [(0, .inr (.inr x0)), (1, .inl x1), (3, .inl x3), (4, .inl x4), (5, .inl x5), (6, .inl x6)] [] S := by
  intro n
  induction n with
  | zero =>
    intro x0 x1 x3 x4 x5 x6 S z h
    cases h
  | succ n ih =>
    intro x0 x1 x3 x4 x5 x6 S z h
    exact tb_M_look_70  ih x0 x1 x3 x4 x5 x6 S z h
set_option maxRecDepth 100000 in
set_option maxHeartbeats 4000000 in
theorem tb_M_look_37 {D : xD} {d : Nat} {S0 : xS} : ∀ (x0 : Option Nat) (x1 : Int32) (x2 : Int32) (x3 : Int32) (y0 : Int32) (y1 : Option Nat) (S : xS) (z : Int32 × xS), b_M_look_37 d x0 x1 x2 x3 y0 y1 S = some z → V m_M_look D (d + 1) S0 (cvI z) 37 [(0, .inr (.inr x0)), (1, .inl x1), (2, .inl x2), (3, .inl x3)] [.int y0, va_rf y1] S := by
  intro x0 x1 x2 x3 y0 y1 S z h
  unfold b_M_look_37 at h
  refine x_put (host := none) h hc_5 hi_5 tyX_5 ht_5 hn_5 (by decide) rfl rfl rfl wf_M_28 d_M_look_37 (fun S1 h => ?_)
  refine x_aload_n 0 d_M_look_40 rfl rfl ?_
  refine x_getI (host := none) h hc_5 hi_5 (by decide) wf_M_28 d_M_look_41 (fun v2 h => ?_)
  refine x_if_le (tgt := 49) d_M_look_44 (by decide) h (fun h => ?_) (fun h => ?_)
  · refine x_aload_n 0 d_M_look_49 rfl rfl ?_
    refine x_getR (host := none) h hc_5 hi_5 (by decide) wf_M_13 d_M_look_50 (fun v3 h => ?_)
    refine x_iload_n 1 d_M_look_53 rfl rfl ?_
    refine x_iald h ha_3 d_M_look_54 (fun v4 h => ?_)
    refine x_iload_n 2 d_M_look_55 rfl rfl ?_
    refine x_iadd d_M_look_56 ?_
    refine x_istore (lv' := [(4, .inl (v4 + x2)), (0, .inr (.inr x0)), (1, .inl x1), (2, .inl x2), (3, .inl x3)]) d_M_look_57 (by decide) rfl ?_
    refine x_iconst (v := (-1)) d_M_look_59 (by decide) ?_
    refine x_istore (lv' := [(5, .inl ((-1))), (4, .inl (v4 + x2)), (0, .inr (.inr x0)), (1, .inl x1), (2, .inl x2), (3, .inl x3)]) d_M_look_60 (by decide) rfl ?_
    refine x_aload_n 2 d_M_look_62 rfl rfl ?_
    refine x_getR (host := none) h hc_5 hi_5 (by decide) wf_M_13 d_M_look_63 (fun v5 h => ?_)
    refine x_iload_n 3 d_M_look_66 rfl rfl ?_
    refine x_iald h ha_3 d_M_look_67 (fun v6 h => ?_)
    refine x_istore (lv' := [(6, .inl v6), (5, .inl ((-1))), (4, .inl (v4 + x2)), (0, .inr (.inr x0)), (1, .inl x1), (2, .inl x2), (3, .inl x3)]) d_M_look_68 (by decide) rfl ?_
    refine x_ls [3, 4, 6, 2, 1, 0] rfl ?_
    exact tl_M_look_70 xN x0 x1 x3 (v4 + x2) ((-1)) v6 S1 _ h
  · refine x_iconst (v := 0) d_M_look_47 (by decide) ?_
    cases h
    exact x_iret rfl d_M_look_48
set_option maxRecDepth 100000 in
set_option maxHeartbeats 4000000 in
theorem tb_M_look_32 {D : xD} {d : Nat} {S0 : xS} : ∀ (x0 : Option Nat) (x1 : Int32) (x2 : Int32) (x3 : Int32) (y0 : Option Nat) (S : xS) (z : Int32 × xS), b_M_look_32 d x0 x1 x2 x3 y0 S = some z → V m_M_look D (d + 1) S0 (cvI z) 32 [(0, .inr (.inr x0)), (1, .inl x1), (2, .inl x2), (3, .inl x3)] [va_rf y0] S := by
  intro x0 x1 x2 x3 y0 S z h
  unfold b_M_look_32 at h
  refine x_iconst (v := 2) d_M_look_32 (by decide) ?_
  refine x_goto (tgt := 37) d_M_look_33 (by decide) ?_
  refine x_ls [0, 1, 2, 3] rfl ?_
  exact tb_M_look_37 x0 x1 x2 x3 2 y0 S _ h
set_option maxRecDepth 100000 in
set_option maxHeartbeats 4000000 in
theorem tb_M_look_19 {D : xD} {d : Nat} {S0 : xS} : ∀ (x0 : Option Nat) (x1 : Int32) (x2 : Int32) (x3 : Int32) (y0 : Option Nat) (S : xS) (z : Int32 × xS), b_M_look_19 d x0 x1 x2 x3 y0 S = some z → V m_M_look D (d + 1) S0 (cvI z) 19 [(0, .inr (.inr x0)), (1, .inl x1), (2, .inl x2), (3, .inl x3)] [va_rf y0] S := by
  intro x0 x1 x2 x3 y0 S z h
  unfold b_M_look_19 at h
  refine x_iconst (v := 1) d_M_look_19 (by decide) ?_
  refine x_goto (tgt := 37) d_M_look_20 (by decide) ?_
  refine x_ls [0, 1, 2, 3] rfl ?_
  exact tb_M_look_37 x0 x1 x2 x3 1 y0 S _ h
set_option maxRecDepth 100000 in
set_option maxHeartbeats 4000000 in
theorem te_M_look {D : xD} {d : Nat} {S0 : xS} : ∀ (p0 : Option Nat) (p1 : Int32) (p2 : Int32) (p3 : Int32) (S : xS) (z : Int32 × xS), e_M_look d p0 p1 p2 p3 S = some z → V m_M_look D (d + 1) S0 (cvI z) 0 [(0, .inr (.inr p0)), (1, .inl p1), (2, .inl p2), (3, .inl p3)] [] S := by
  intro p0 p1 p2 p3 S z h
  unfold e_M_look at h
  refine x_aload_n 0 d_M_look_0 rfl rfl ?_
  refine x_aload_n 0 d_M_look_1 rfl rfl ?_
  refine x_iload_n 1 d_M_look_2 rfl rfl ?_
  refine x_iload_n 2 d_M_look_3 rfl rfl ?_
  refine x_callV' (M' := m_M_isPlace) (ax := [.inl p1, .inl p2]) (cv := cvI) (host := none) (st := [va_rf p0]) h (fun q h l => s_M_isPlace d p0 p1 p2 S q h l D) hc_5 rfl d_M_look_4 wm_M_40 wc_M_isPlace rfl (Nat.le_of_ble_eq_true rfl) (fun q1 h => ?_)
  show V _ _ _ _ _ _ _ (.int q1.1 :: va_rf p0 :: []) _
  refine x_if_eq (tgt := 19) d_M_look_7 (by decide) h (fun h => ?_) (fun h => ?_)
  · refine x_ls [0, 1, 2, 3] rfl ?_
    exact tb_M_look_19 p0 p1 p2 p3 p0 q1.2 _ h
  · refine x_iload_n 2 d_M_look_10 rfl rfl ?_
    refine x_aload_n 0 d_M_look_11 rfl rfl ?_
    refine x_iload_n 1 d_M_look_12 rfl rfl ?_
    refine x_callV' (M' := m_M_size) (ax := [.inl p1]) (cv := cvI) (host := none) (st := [.int p2, va_rf p0]) h (fun q h l => s_M_size d p0 p1 q1.2 q h l D) hc_5 rfl d_M_look_13 wm_M_36 wc_M_size rfl (Nat.le_of_ble_eq_true rfl) (fun q2 h => ?_)
    show V _ _ _ _ _ _ _ (.int q2.1 :: .int p2 :: va_rf p0 :: []) _
    refine x_icmp_ne (tgt := 23) d_M_look_16 (by decide) h (fun h => ?_) (fun h => ?_)
    · refine x_iload_n 3 d_M_look_23 rfl rfl ?_
      refine x_if_lt (tgt := 32) d_M_look_24 (by decide) h (fun h => ?_) (fun h => ?_)
      · refine x_ls [0, 1, 2, 3] rfl ?_
        exact tb_M_look_32 p0 p1 p2 p3 p0 q2.2 _ h
      · refine x_iload_n 3 d_M_look_27 rfl rfl ?_
        refine x_iconst (v := 3) d_M_look_28 (by decide) ?_
        refine x_icmp_le (tgt := 36) d_M_look_29 (by decide) h (fun h => ?_) (fun h => ?_)
        · refine x_iconst (v := 0) d_M_look_36 (by decide) ?_
          refine x_ls [0, 1, 2, 3] rfl ?_
          exact tb_M_look_37 p0 p1 p2 p3 0 p0 q2.2 _ h
        · refine x_ls [0, 1, 2, 3] rfl ?_
          exact tb_M_look_32 p0 p1 p2 p3 p0 q2.2 _ h
    · refine x_ls [0, 1, 2, 3] rfl ?_
      exact tb_M_look_19 p0 p1 p2 p3 p0 q2.2 _ h
theorem s_M_look : ∀ (d : Nat) (p0 : Option Nat) (p1 : Int32) (p2 : Int32) (p3 : Int32) (S : xS) (z : Int32 × xS), f_M_look d p0 p1 p2 p3 S = some z → ∀ (l : Launch) (D : xD), xMet l m_M_look D d [.inr (.inr p0), .inl p1, .inl p2, .inl p3] S (cvI z) := by
  intro d
  induction d with
  | zero =>
    intro p0 p1 p2 p3 S z h
    cases h
  | succ d ih =>
    intro p0 p1 p2 p3 S z h l D
    exact x_ofV rfl (by decide) (Nat.le_of_ble_eq_true rfl) (te_M_look  p0 p1 p2 p3 S z h)
set_option maxRecDepth 100000 in
set_option maxHeartbeats 4000000 in
theorem tb_M_piece_179 {D : xD} {d : Nat} {S0 : xS} : ∀ (y0 : Int32) (S : xS) (z : Int32 × xS), b_M_piece_179 d y0 S = some z → V m_M_piece D (d + 1) S0 (cvI z) 179 [] [.int y0] S := by
  intro y0 S z h
  unfold b_M_piece_179 at h
  cases h
  exact x_iret rfl d_M_piece_179
set_option maxRecDepth 100000 in
set_option maxHeartbeats 4000000 in
theorem tb_M_piece_131 {D : xD} {d : Nat} {S0 : xS} : ∀ (x0 : Option Nat) (x1 : Int32) (x3 : Int32) (x5 : Int32) (x6 : Int32) (S : xS) (z : Int32 × xS), b_M_piece_131 d x0 x1 x3 x5 x6 S = some z → V m_M_piece D (d + 1) S0 (cvI z) 131 [(0, .inr (.inr x0)), (1, .inl x1), (3, .inl x3), (5, .inl x5), (6, .inl x6)] [] S := by
  intro x0 x1 x3 x5 x6 S z h
  unfold b_M_piece_131 at h
  refine x_iload_n 2 d_M_piece_131 rfl rfl ?_
  refine x_if_ne (tgt := 147) d_M_piece_132 (by decide) h (fun h => ?_) (fun h => ?_)
  · refine x_iload_n 2 d_M_piece_147 rfl rfl ?_
    refine x_iconst (v := 1) d_M_piece_148 (by decide) ?_
    refine x_icmp_ne (tgt := 162) d_M_piece_149 (by decide) h (fun h => ?_) (fun h => ?_)
    · refine x_iload_n 2 d_M_piece_162 rfl rfl ?_
      refine x_iconst (v := 2) d_M_piece_163 (by decide) ?_
      refine x_icmp_ne (tgt := 172) d_M_piece_164 (by decide) h (fun h => ?_) (fun h => ?_)
      · refine x_aload_n 0 d_M_piece_172 rfl rfl ?_
        refine x_getR (host := none) h hc_5 hi_5 (by decide) wf_M_19 d_M_piece_173 (fun v1 h => ?_)
        refine x_iload 3 d_M_piece_176 rfl ?_
        refine x_iald h ha_3 d_M_piece_178 (fun v2 h => ?_)
        refine x_ls [] rfl ?_
        exact tb_M_piece_179 v2 S _ h
      · refine x_iload 4 d_M_piece_167 rfl ?_
        refine x_goto (tgt := 179) d_M_piece_169 (by decide) ?_
        refine x_ls [] rfl ?_
        exact tb_M_piece_179 x6 S _ h
    · refine x_aload_n 0 d_M_piece_152 rfl rfl ?_
      refine x_getR (host := none) h hc_5 hi_5 (by decide) wf_M_16 d_M_piece_153 (fun v3 h => ?_)
      refine x_iload 3 d_M_piece_156 rfl ?_
      refine x_iald h ha_3 d_M_piece_158 (fun v4 h => ?_)
      refine x_goto (tgt := 179) d_M_piece_159 (by decide) ?_
      refine x_ls [] rfl ?_
      exact tb_M_piece_179 v4 S _ h
  · refine x_iload 3 d_M_piece_135 rfl ?_
    refine x_aload_n 0 d_M_piece_137 rfl rfl ?_
    refine x_getR (host := none) h hc_5 hi_5 (by decide) wf_M_13 d_M_piece_138 (fun v5 h => ?_)
    refine x_iload_n 1 d_M_piece_141 rfl rfl ?_
    refine x_iald h ha_3 d_M_piece_142 (fun v6 h => ?_)
    refine x_isub d_M_piece_143 ?_
    refine x_goto (tgt := 179) d_M_piece_144 (by decide) ?_
    refine x_ls [] rfl ?_
    exact tb_M_piece_179 (x5 - v6) S _ h
set_option maxRecDepth 100000 in
set_option maxHeartbeats 4000000 in
theorem tb_M_piece_96 {D : xD} {d : Nat} {S0 : xS} {k96 : Option Nat → Int32 → Int32 → Int32 → Int32 → xS → Option (Int32 × xS)} (hk96 : ∀ (x0 : Option Nat) (x1 : Int32) (x3 : Int32) (x5 : Int32) (x6 : Int32)  (S : xS) (z : Int32 × xS), k96 x0 x1 x3 x5 x6 S = some z → V m_M_piece D (d + 1) S0 (cvI z) 96 [(0, .inr (.inr x0)), (1, .inl x1), (3, .inl x3), (5, .inl x5), (6, .inl x6)] [] S) : ∀ (x0 : Option Nat) (x1 : Int32) (x3 : Int32) (x5 : Int32) (x6 : Int32) (S : xS) (z : Int32 × xS), b_M_piece_96 d k96 x0 x1 x3 x5 x6 S = some z → V m_M_piece D (d + 1) S0 (cvI z) 96 [(0, .inr (.inr x0)), (1, .inl x1), (3, .inl x3), (5, .inl x5), (6, .inl x6)] [] S := by
  intro x0 x1 x3 x5 x6 S z h
  unfold b_M_piece_96 at h
  refine x_iload 3 d_M_piece_96 rfl ?_
  refine x_iload 4 d_M_piece_98 rfl ?_
  refine x_iadd d_M_piece_100 ?_
  refine x_aload_n 0 d_M_piece_101 rfl rfl ?_
  refine x_getR (host := none) h hc_5 hi_5 (by decide) wf_M_13 d_M_piece_102 (fun v1 h => ?_)
  refine x_iload_n 1 d_M_piece_105 rfl rfl ?_
  refine x_iconst (v := 1) d_M_piece_106 (by decide) ?_
  refine x_iadd d_M_piece_107 ?_
  refine x_iald h ha_3 d_M_piece_108 (fun v2 h => ?_)
  refine x_icmp_ge (tgt := 131) d_M_piece_109 (by decide) h (fun h => ?_) (fun h => ?_)
  · refine x_ls [0, 1, 2, 3, 4] rfl ?_
    exact tb_M_piece_131 x0 x1 x3 x5 x6 S _ h
  · refine x_aload_n 0 d_M_piece_112 rfl rfl ?_
    refine x_iload_n 1 d_M_piece_113 rfl rfl ?_
    refine x_iload 3 d_M_piece_114 rfl ?_
    refine x_iload 4 d_M_piece_116 rfl ?_
    refine x_iadd d_M_piece_118 ?_
    refine x_callV' (M' := m_M_parts) (ax := [.inl x1, .inl (x5 + x6)]) (cv := cvI) (host := none) (st := []) h (fun q h l => s_M_parts d x0 x1 (x5 + x6) S q h l D) hc_5 rfl d_M_piece_119 wm_M_52 wc_M_parts rfl (Nat.le_of_ble_eq_true rfl) (fun q3 h => ?_)
    show V _ _ _ _ _ _ _ (.int q3.1 :: []) _
    refine x_if_ne (tgt := 131) d_M_piece_122 (by decide) h (fun h => ?_) (fun h => ?_)
    · refine x_ls [0, 1, 2, 3, 4] rfl ?_
      exact tb_M_piece_131 x0 x1 x3 x5 x6 q3.2 _ h
    · refine x_iinc (v := 1) (lv' := [(6, .inl (x6 + 1)), (0, .inr (.inr x0)), (1, .inl x1), (3, .inl x3), (5, .inl x5)]) 4 d_M_piece_125 rfl (by decide) (by decide) rfl ?_
      refine x_goto (tgt := 96) d_M_piece_128 (by decide) ?_
      refine x_ls [1, 2, 3, 4, 0] rfl ?_
      exact hk96 x0 x1 x3 x5 (x6 + 1) q3.2 _ h
theorem tl_M_piece_96 {D : xD} {d : Nat} {S0 : xS} : ∀ (n : Nat) (x0 : Option Nat) (x1 : Int32) (x3 : Int32) (x5 : Int32) (x6 : Int32) (S : xS) (z : Int32 × xS), l_M_piece_96 d n x0 x1 x3 x5 x6 S = some z → V m_M_piece D (d + 1) S0 (cvI z) 96 [(0, .inr (.inr x0)), (1, .inl x1), (3, .inl x3), (5, .inl x5), (6, .inl x6)] [] S := by
  intro n
  induction n with
  | zero =>
    intro x0 x1 x3 x5 x6 S z h
    cases h
  | succ n ih =>
    intro x0 x1 x3 x5 x6 S z h
    exact tb_M_piece_96  ih x0 x1 x3 x5 x6 S z h
set_option maxRecDepth 100000 in
set_option maxHeartbeats 4000000 in
theorem tb_M_piece_87 {D : xD} {d : Nat} {S0 : xS} {k62 : Option Nat → Int32 → Int32 → Int32 → Int32 → xS → Option (Int32 × xS)} (hk62 : ∀ (x0 : Option Nat) (x1 : Int32) (x3 : Int32) (x4 : Int32) (x5 : Int32)  (S : xS) (z : Int32 × xS), k62 x0 x1 x3 x4 x5 S = some z → V m_M_piece D (d + 1) S0 (cvI z) 62 [(0, .inr (.inr x0)), (1, .inl x1), (3, .inl x3), (4, .inl x4), (5, .inl x5)] [] S) : ∀ (x0 : Option Nat) (x1 : Int32) (x3 : Int32) (x5 : Int32) (y0 : Int32) (y1 : Int32) (S : xS) (z : Int32 × xS), b_M_piece_87 d k62 x0 x1 x3 x5 y0 y1 S = some z → V m_M_piece D (d + 1) S0 (cvI z) 87 [(0, .inr (.inr x0)), (1, .inl x1), (3, .inl x3), (5, .inl x5)] [.int y0, .int y1] S := by
  intro x0 x1 x3 x5 y0 y1 S z h
  unfold b_M_piece_87 at h
  refine x_isub d_M_piece_87 ?_
  refine x_istore (lv' := [(4, .inl (y1 - y0)), (0, .inr (.inr x0)), (1, .inl x1), (3, .inl x3), (5, .inl x5)]) d_M_piece_88 (by decide) rfl ?_
  refine x_goto (tgt := 62) d_M_piece_90 (by decide) ?_
  refine x_ls [1, 2, 3, 0, 4] rfl ?_
  exact hk62 x0 x1 x3 (y1 - y0) x5 S _ h
set_option maxRecDepth 100000 in
set_option maxHeartbeats 4000000 in
theorem tb_M_piece_62 {D : xD} {d : Nat} {S0 : xS} {k62 : Option Nat → Int32 → Int32 → Int32 → Int32 → xS → Option (Int32 × xS)} (hk62 : ∀ (x0 : Option Nat) (x1 : Int32) (x3 : Int32) (x4 : Int32) (x5 : Int32)  (S : xS) (z : Int32 × xS), k62 x0 x1 x3 x4 x5 S = some z → V m_M_piece D (d + 1) S0 (cvI z) 62 [(0, .inr (.inr x0)), (1, .inl x1), (3, .inl x3), (4, .inl x4), (5, .inl x5)] [] S) : ∀ (x0 : Option Nat) (x1 : Int32) (x3 : Int32) (x4 : Int32) (x5 : Int32) (S : xS) (z : Int32 × xS), b_M_piece_62 d k62 x0 x1 x3 x4 x5 S = some z → V m_M_piece D (d + 1) S0 (cvI z) 62 [(0, .inr (.inr x0)), (1, .inl x1), (3, .inl x3), (4, .inl x4), (5, .inl x5)] [] S := by
  intro x0 x1 x3 x4 x5 S z h
  unfold b_M_piece_62 at h
  refine x_iload 3 d_M_piece_62 rfl ?_
  refine x_if_le (tgt := 93) d_M_piece_64 (by decide) h (fun h => ?_) (fun h => ?_)
  · refine x_iconst (v := 1) d_M_piece_93 (by decide) ?_
    refine x_istore (lv' := [(6, .inl 1), (0, .inr (.inr x0)), (1, .inl x1), (3, .inl x3), (4, .inl x4), (5, .inl x5)]) d_M_piece_94 (by decide) rfl ?_
    refine x_ls [1, 2, 3, 5, 0] rfl ?_
    exact tl_M_piece_96 xN x0 x1 x3 x5 1 S _ h
  · refine x_iinc (v := 1) (lv' := [(5, .inl (x5 + 1)), (0, .inr (.inr x0)), (1, .inl x1), (3, .inl x3), (4, .inl x4)]) 4 d_M_piece_67 rfl (by decide) (by decide) rfl ?_
    refine x_iload 4 d_M_piece_70 rfl ?_
    refine x_aload_n 1 d_M_piece_72 rfl rfl ?_
    refine x_iload_n 2 d_M_piece_73 rfl rfl ?_
    refine x_iload 0 d_M_piece_74 rfl ?_
    refine x_callV' (M' := m_M_parts) (ax := [.inl x1, .inl (x5 + 1)]) (cv := cvI) (host := none) (st := [.int x4]) h (fun q h l => s_M_parts d x0 x1 (x5 + 1) S q h l D) hc_5 rfl d_M_piece_76 wm_M_52 wc_M_parts rfl (Nat.le_of_ble_eq_true rfl) (fun q1 h => ?_)
    show V _ _ _ _ _ _ _ (.int q1.1 :: .int x4 :: []) _
    refine x_if_eq (tgt := 86) d_M_piece_79 (by decide) h (fun h => ?_) (fun h => ?_)
    · refine x_iconst (v := 0) d_M_piece_86 (by decide) ?_
      refine x_ls [1, 2, 3, 0] rfl ?_
      exact tb_M_piece_87 hk62 x0 x1 x3 (x5 + 1) 0 x4 q1.2 _ h
    · refine x_iconst (v := 1) d_M_piece_82 (by decide) ?_
      refine x_goto (tgt := 87) d_M_piece_83 (by decide) ?_
      refine x_ls [1, 2, 3, 0] rfl ?_
      exact tb_M_piece_87 hk62 x0 x1 x3 (x5 + 1) 1 x4 q1.2 _ h
theorem tl_M_piece_62 {D : xD} {d : Nat} {S0 : xS} : ∀ (n : Nat) (x0 : Option Nat) (x1 : Int32) (x3 : Int32) (x4 : Int32) (x5 : Int32) (S : xS) (z : Int32 × xS), l_M_piece_62 d n x0 x1 x3 x4 x5 S = some z → V m_M_piece D (d + 1) S0 (cvI z) 62 [(0, .inr (.inr x0)), (1, .inl x1), (3, .inl x3), (4, .inl x4), (5, .inl x5)] [] S := by
  intro n
  induction n with
  | zero =>
    intro x0 x1 x3 x4 x5 S z h
    cases h
  | succ n ih =>
    intro x0 x1 x3 x4 x5 S z h
    exact tb_M_piece_62  ih x0 x1 x3 x4 x5 S z h
set_option maxRecDepth 100000 in
set_option maxHeartbeats 4000000 in
theorem tb_M_piece_39 {D : xD} {d : Nat} {S0 : xS} : ∀ (x0 : Option Nat) (x1 : Int32) (x2 : Int32) (x3 : Int32) (y0 : Int32) (y1 : Option Nat) (S : xS) (z : Int32 × xS), b_M_piece_39 d x0 x1 x2 x3 y0 y1 S = some z → V m_M_piece D (d + 1) S0 (cvI z) 39 [(0, .inr (.inr x0)), (1, .inl x1), (2, .inl x2), (3, .inl x3)] [.int y0, va_rf y1] S := by
  intro x0 x1 x2 x3 y0 y1 S z h
  unfold b_M_piece_39 at h
  refine x_put (host := none) h hc_5 hi_5 tyX_5 ht_5 hn_5 (by decide) rfl rfl rfl wf_M_28 d_M_piece_39 (fun S1 h => ?_)
  refine x_aload_n 0 d_M_piece_42 rfl rfl ?_
  refine x_getI (host := none) h hc_5 hi_5 (by decide) wf_M_28 d_M_piece_43 (fun v2 h => ?_)
  refine x_if_le (tgt := 51) d_M_piece_46 (by decide) h (fun h => ?_) (fun h => ?_)
  · refine x_iload_n 2 d_M_piece_51 rfl rfl ?_
    refine x_istore (lv' := [(4, .inl x2), (0, .inr (.inr x0)), (1, .inl x1), (2, .inl x2), (3, .inl x3)]) d_M_piece_52 (by decide) rfl ?_
    refine x_aload_n 1 d_M_piece_54 rfl rfl ?_
    refine x_getR (host := none) h hc_5 hi_5 (by decide) wf_M_13 d_M_piece_55 (fun v3 h => ?_)
    refine x_iload_n 2 d_M_piece_58 rfl rfl ?_
    refine x_iald h ha_3 d_M_piece_59 (fun v4 h => ?_)
    refine x_istore (lv' := [(5, .inl v4), (4, .inl x2), (0, .inr (.inr x0)), (1, .inl x1), (2, .inl x2), (3, .inl x3)]) d_M_piece_60 (by decide) rfl ?_
    refine x_ls [2, 3, 5, 1, 0] rfl ?_
    exact tl_M_piece_62 xN x0 x1 x3 x2 v4 S1 _ h
  · refine x_iconst (v := 0) d_M_piece_49 (by decide) ?_
    cases h
    exact x_iret rfl d_M_piece_50
set_option maxRecDepth 100000 in
set_option maxHeartbeats 4000000 in
theorem tb_M_piece_34 {D : xD} {d : Nat} {S0 : xS} : ∀ (x0 : Option Nat) (x1 : Int32) (x2 : Int32) (x3 : Int32) (y0 : Option Nat) (S : xS) (z : Int32 × xS), b_M_piece_34 d x0 x1 x2 x3 y0 S = some z → V m_M_piece D (d + 1) S0 (cvI z) 34 [(0, .inr (.inr x0)), (1, .inl x1), (2, .inl x2), (3, .inl x3)] [va_rf y0] S := by
  intro x0 x1 x2 x3 y0 S z h
  unfold b_M_piece_34 at h
  refine x_iconst (v := 2) d_M_piece_34 (by decide) ?_
  refine x_goto (tgt := 39) d_M_piece_35 (by decide) ?_
  refine x_ls [0, 1, 2, 3] rfl ?_
  exact tb_M_piece_39 x0 x1 x2 x3 2 y0 S _ h
set_option maxRecDepth 100000 in
set_option maxHeartbeats 4000000 in
theorem tb_M_piece_21 {D : xD} {d : Nat} {S0 : xS} : ∀ (x0 : Option Nat) (x1 : Int32) (x2 : Int32) (x3 : Int32) (y0 : Option Nat) (S : xS) (z : Int32 × xS), b_M_piece_21 d x0 x1 x2 x3 y0 S = some z → V m_M_piece D (d + 1) S0 (cvI z) 21 [(0, .inr (.inr x0)), (1, .inl x1), (2, .inl x2), (3, .inl x3)] [va_rf y0] S := by
  intro x0 x1 x2 x3 y0 S z h
  unfold b_M_piece_21 at h
  refine x_iconst (v := 1) d_M_piece_21 (by decide) ?_
  refine x_goto (tgt := 39) d_M_piece_22 (by decide) ?_
  refine x_ls [0, 1, 2, 3] rfl ?_
  exact tb_M_piece_39 x0 x1 x2 x3 1 y0 S _ h
set_option maxRecDepth 100000 in
set_option maxHeartbeats 4000000 in
theorem te_M_piece {D : xD} {d : Nat} {S0 : xS} : ∀ (p0 : Option Nat) (p1 : Int32) (p2 : Int32) (p3 : Int32) (S : xS) (z : Int32 × xS), e_M_piece d p0 p1 p2 p3 S = some z → V m_M_piece D (d + 1) S0 (cvI z) 0 [(0, .inr (.inr p0)), (1, .inl p1), (2, .inl p2), (3, .inl p3)] [] S := by
  intro p0 p1 p2 p3 S z h
  unfold e_M_piece at h
  refine x_aload_n 0 d_M_piece_0 rfl rfl ?_
  refine x_iload_n 1 d_M_piece_1 rfl rfl ?_
  refine x_callS' (M' := m_M_isText) (ax := [.inl p1]) (cv := cvI) (host := none) (st := [va_rf p0]) h (fun q h l => s_M_isText d p1 S q h l D) rfl d_M_piece_2 wm_M_32 wc_M_isText rfl (Nat.le_of_ble_eq_true rfl) (fun q1 h => ?_)
  show V _ _ _ _ _ _ _ (.int q1.1 :: va_rf p0 :: []) _
  refine x_if_eq (tgt := 21) d_M_piece_5 (by decide) h (fun h => ?_) (fun h => ?_)
  · refine x_ls [0, 1, 2, 3] rfl ?_
    exact tb_M_piece_21 p0 p1 p2 p3 p0 q1.2 _ h
  · refine x_iload_n 2 d_M_piece_8 rfl rfl ?_
    refine x_if_lt (tgt := 21) d_M_piece_9 (by decide) h (fun h => ?_) (fun h => ?_)
    · refine x_ls [0, 1, 2, 3] rfl ?_
      exact tb_M_piece_21 p0 p1 p2 p3 p0 q1.2 _ h
    · refine x_iload_n 2 d_M_piece_12 rfl rfl ?_
      refine x_aload_n 0 d_M_piece_13 rfl rfl ?_
      refine x_iload_n 1 d_M_piece_14 rfl rfl ?_
      refine x_callV' (M' := m_M_pieces) (ax := [.inl p1]) (cv := cvI) (host := none) (st := [.int p2, va_rf p0]) h (fun q h l => s_M_pieces d p0 p1 q1.2 q h l D) hc_5 rfl d_M_piece_15 wm_M_55 wc_M_pieces rfl (Nat.le_of_ble_eq_true rfl) (fun q2 h => ?_)
      show V _ _ _ _ _ _ _ (.int q2.1 :: .int p2 :: va_rf p0 :: []) _
      refine x_icmp_lt (tgt := 25) d_M_piece_18 (by decide) h (fun h => ?_) (fun h => ?_)
      · refine x_iload_n 3 d_M_piece_25 rfl rfl ?_
        refine x_if_lt (tgt := 34) d_M_piece_26 (by decide) h (fun h => ?_) (fun h => ?_)
        · refine x_ls [0, 1, 2, 3] rfl ?_
          exact tb_M_piece_34 p0 p1 p2 p3 p0 q2.2 _ h
        · refine x_iload_n 3 d_M_piece_29 rfl rfl ?_
          refine x_iconst (v := 3) d_M_piece_30 (by decide) ?_
          refine x_icmp_le (tgt := 38) d_M_piece_31 (by decide) h (fun h => ?_) (fun h => ?_)
          · refine x_iconst (v := 0) d_M_piece_38 (by decide) ?_
            refine x_ls [0, 1, 2, 3] rfl ?_
            exact tb_M_piece_39 p0 p1 p2 p3 0 p0 q2.2 _ h
          · refine x_ls [0, 1, 2, 3] rfl ?_
            exact tb_M_piece_34 p0 p1 p2 p3 p0 q2.2 _ h
      · refine x_ls [0, 1, 2, 3] rfl ?_
        exact tb_M_piece_21 p0 p1 p2 p3 p0 q2.2 _ h
theorem s_M_piece : ∀ (d : Nat) (p0 : Option Nat) (p1 : Int32) (p2 : Int32) (p3 : Int32) (S : xS) (z : Int32 × xS), f_M_piece d p0 p1 p2 p3 S = some z → ∀ (l : Launch) (D : xD), xMet l m_M_piece D d [.inr (.inr p0), .inl p1, .inl p2, .inl p3] S (cvI z) := by
  intro d
  induction d with
  | zero =>
    intro p0 p1 p2 p3 S z h
    cases h
  | succ d ih =>
    intro p0 p1 p2 p3 S z h l D
    exact x_ofV rfl (by decide) (Nat.le_of_ble_eq_true rfl) (te_M_piece  p0 p1 p2 p3 S z h)
set_option maxRecDepth 100000 in
set_option maxHeartbeats 4000000 in
theorem tb_M_find_37 {D : xD} {d : Nat} {S0 : xS} {k37 : Option Nat → Int32 → Int32 → Int32 → xS → Option (Int32 × xS)} (hk37 : ∀ (x0 : Option Nat) (x1 : Int32) (x3 : Int32) (x4 : Int32)  (S : xS) (z : Int32 × xS), k37 x0 x1 x3 x4 S = some z → V m_M_find D (d + 1) S0 (cvI z) 37 [(0, .inr (.inr x0)), (1, .inl x1), (3, .inl x3), (4, .inl x4)] [] S) : ∀ (x0 : Option Nat) (x1 : Int32) (x3 : Int32) (x4 : Int32) (S : xS) (z : Int32 × xS), b_M_find_37 d k37 x0 x1 x3 x4 S = some z → V m_M_find D (d + 1) S0 (cvI z) 37 [(0, .inr (.inr x0)), (1, .inl x1), (3, .inl x3), (4, .inl x4)] [] S := by
  intro x0 x1 x3 x4 S z h
  unfold b_M_find_37 at h
  refine x_iload 3 d_M_find_37 rfl ?_
  refine x_aload_n 0 d_M_find_39 rfl rfl ?_
  refine x_getR (host := none) h hc_5 hi_5 (by decide) wf_M_13 d_M_find_40 (fun v1 h => ?_)
  refine x_iload_n 1 d_M_find_43 rfl rfl ?_
  refine x_iconst (v := 1) d_M_find_44 (by decide) ?_
  refine x_iadd d_M_find_45 ?_
  refine x_iald h ha_3 d_M_find_46 (fun v2 h => ?_)
  refine x_icmp_ge (tgt := 82) d_M_find_47 (by decide) h (fun h => ?_) (fun h => ?_)
  · refine x_iconst (v := (-1)) d_M_find_82 (by decide) ?_
    cases h
    exact x_iret rfl d_M_find_83
  · refine x_aload_n 0 d_M_find_50 rfl rfl ?_
    refine x_getR (host := none) h hc_5 hi_5 (by decide) wf_M_7 d_M_find_51 (fun v3 h => ?_)
    refine x_aload_n 0 d_M_find_54 rfl rfl ?_
    refine x_getR (host := none) h hc_5 hi_5 (by decide) wf_M_16 d_M_find_55 (fun v4 h => ?_)
    refine x_iload 3 d_M_find_58 rfl ?_
    refine x_iald h ha_3 d_M_find_60 (fun v5 h => ?_)
    refine x_iald h ha_3 d_M_find_61 (fun v6 h => ?_)
    refine x_iload_n 2 d_M_find_62 rfl rfl ?_
    refine x_icmp_ne (tgt := 76) d_M_find_63 (by decide) h (fun h => ?_) (fun h => ?_)
    · refine x_iinc (v := 1) (lv' := [(4, .inl (x4 + 1)), (0, .inr (.inr x0)), (1, .inl x1), (3, .inl x3)]) 3 d_M_find_76 rfl (by decide) (by decide) rfl ?_
      refine x_goto (tgt := 37) d_M_find_79 (by decide) ?_
      refine x_ls [1, 2, 3, 0] rfl ?_
      exact hk37 x0 x1 x3 (x4 + 1) S _ h
    · refine x_iload 3 d_M_find_66 rfl ?_
      refine x_aload_n 0 d_M_find_68 rfl rfl ?_
      refine x_getR (host := none) h hc_5 hi_5 (by decide) wf_M_13 d_M_find_69 (fun v7 h => ?_)
      refine x_iload_n 1 d_M_find_72 rfl rfl ?_
      refine x_iald h ha_3 d_M_find_73 (fun v8 h => ?_)
      refine x_isub d_M_find_74 ?_
      cases h
      exact x_iret rfl d_M_find_75
theorem tl_M_find_37 {D : xD} {d : Nat} {S0 : xS} : ∀ (n : Nat) (x0 : Option Nat) (x1 : Int32) (x3 : Int32) (x4 : Int32) (S : xS) (z : Int32 × xS), l_M_find_37 d n x0 x1 x3 x4 S = some z → V m_M_find D (d + 1) S0 (cvI z) 37 [(0, .inr (.inr x0)), (1, .inl x1), (3, .inl x3), (4, .inl x4)] [] S := by
  intro n
  induction n with
  | zero =>
    intro x0 x1 x3 x4 S z h
    cases h
  | succ n ih =>
    intro x0 x1 x3 x4 S z h
    exact tb_M_find_37  ih x0 x1 x3 x4 S z h
set_option maxRecDepth 100000 in
set_option maxHeartbeats 4000000 in
theorem tb_M_find_15 {D : xD} {d : Nat} {S0 : xS} : ∀ (x0 : Option Nat) (x1 : Int32) (x2 : Int32) (x3 : Int32) (y0 : Int32) (y1 : Option Nat) (S : xS) (z : Int32 × xS), b_M_find_15 d x0 x1 x2 x3 y0 y1 S = some z → V m_M_find D (d + 1) S0 (cvI z) 15 [(0, .inr (.inr x0)), (1, .inl x1), (2, .inl x2), (3, .inl x3)] [.int y0, va_rf y1] S := by
  intro x0 x1 x2 x3 y0 y1 S z h
  unfold b_M_find_15 at h
  refine x_put (host := none) h hc_5 hi_5 tyX_5 ht_5 hn_5 (by decide) rfl rfl rfl wf_M_28 d_M_find_15 (fun S1 h => ?_)
  refine x_aload_n 0 d_M_find_18 rfl rfl ?_
  refine x_getI (host := none) h hc_5 hi_5 (by decide) wf_M_28 d_M_find_19 (fun v2 h => ?_)
  refine x_if_le (tgt := 27) d_M_find_22 (by decide) h (fun h => ?_) (fun h => ?_)
  · refine x_aload_n 0 d_M_find_27 rfl rfl ?_
    refine x_getR (host := none) h hc_5 hi_5 (by decide) wf_M_13 d_M_find_28 (fun v3 h => ?_)
    refine x_iload_n 1 d_M_find_31 rfl rfl ?_
    refine x_iald h ha_3 d_M_find_32 (fun v4 h => ?_)
    refine x_iload_n 2 d_M_find_33 rfl rfl ?_
    refine x_iadd d_M_find_34 ?_
    refine x_istore (lv' := [(4, .inl (v4 + x2)), (0, .inr (.inr x0)), (1, .inl x1), (2, .inl x2), (3, .inl x3)]) d_M_find_35 (by decide) rfl ?_
    refine x_ls [1, 2, 4, 0] rfl ?_
    exact tl_M_find_37 xN x0 x1 x3 (v4 + x2) S1 _ h
  · refine x_iconst (v := 0) d_M_find_25 (by decide) ?_
    cases h
    exact x_iret rfl d_M_find_26
set_option maxRecDepth 100000 in
set_option maxHeartbeats 4000000 in
theorem te_M_find {D : xD} {d : Nat} {S0 : xS} : ∀ (p0 : Option Nat) (p1 : Int32) (p2 : Int32) (p3 : Int32) (S : xS) (z : Int32 × xS), e_M_find d p0 p1 p2 p3 S = some z → V m_M_find D (d + 1) S0 (cvI z) 0 [(0, .inr (.inr p0)), (1, .inl p1), (2, .inl p2), (3, .inl p3)] [] S := by
  intro p0 p1 p2 p3 S z h
  unfold e_M_find at h
  refine x_aload_n 0 d_M_find_0 rfl rfl ?_
  refine x_aload_n 0 d_M_find_1 rfl rfl ?_
  refine x_iload_n 1 d_M_find_2 rfl rfl ?_
  refine x_iload_n 2 d_M_find_3 rfl rfl ?_
  refine x_callV' (M' := m_M_isPlace) (ax := [.inl p1, .inl p2]) (cv := cvI) (host := none) (st := [va_rf p0]) h (fun q h l => s_M_isPlace d p0 p1 p2 S q h l D) hc_5 rfl d_M_find_4 wm_M_40 wc_M_isPlace rfl (Nat.le_of_ble_eq_true rfl) (fun q1 h => ?_)
  show V _ _ _ _ _ _ _ (.int q1.1 :: va_rf p0 :: []) _
  refine x_if_eq (tgt := 14) d_M_find_7 (by decide) h (fun h => ?_) (fun h => ?_)
  · refine x_iconst (v := 1) d_M_find_14 (by decide) ?_
    refine x_ls [0, 1, 2, 3] rfl ?_
    exact tb_M_find_15 p0 p1 p2 p3 1 p0 q1.2 _ h
  · refine x_iconst (v := 0) d_M_find_10 (by decide) ?_
    refine x_goto (tgt := 15) d_M_find_11 (by decide) ?_
    refine x_ls [0, 1, 2, 3] rfl ?_
    exact tb_M_find_15 p0 p1 p2 p3 0 p0 q1.2 _ h
theorem s_M_find : ∀ (d : Nat) (p0 : Option Nat) (p1 : Int32) (p2 : Int32) (p3 : Int32) (S : xS) (z : Int32 × xS), f_M_find d p0 p1 p2 p3 S = some z → ∀ (l : Launch) (D : xD), xMet l m_M_find D d [.inr (.inr p0), .inl p1, .inl p2, .inl p3] S (cvI z) := by
  intro d
  induction d with
  | zero =>
    intro p0 p1 p2 p3 S z h
    cases h
  | succ d ih =>
    intro p0 p1 p2 p3 S z h l D
    exact x_ofV rfl (by decide) (Nat.le_of_ble_eq_true rfl) (te_M_find  p0 p1 p2 p3 S z h)
set_option maxRecDepth 100000 in
set_option maxHeartbeats 4000000 in
theorem tb_M_differ_120 {D : xD} {d : Nat} {S0 : xS} : ∀ (y0 : Int32) (S : xS) (z : Int32 × xS), b_M_differ_120 d y0 S = some z → V m_M_differ D (d + 1) S0 (cvI z) 120 [] [.int y0] S := by
  intro y0 S z h
  unfold b_M_differ_120 at h
  cases h
  exact x_iret rfl d_M_differ_120
set_option maxRecDepth 100000 in
set_option maxHeartbeats 4000000 in
theorem tb_M_differ_115 {D : xD} {d : Nat} {S0 : xS} : ∀ (x3 : Int32) (S : xS) (z : Int32 × xS), b_M_differ_115 d x3 S = some z → V m_M_differ D (d + 1) S0 (cvI z) 115 [(3, .inl x3)] [] S := by
  intro x3 S z h
  unfold b_M_differ_115 at h
  refine x_iload_n 0 d_M_differ_115 rfl rfl ?_
  refine x_goto (tgt := 120) d_M_differ_116 (by decide) ?_
  refine x_ls [] rfl ?_
  exact tb_M_differ_120 x3 S _ h
set_option maxRecDepth 100000 in
set_option maxHeartbeats 4000000 in
theorem tb_M_differ_97 {D : xD} {d : Nat} {S0 : xS} : ∀ (x0 : Option Nat) (x1 : Int32) (x2 : Int32) (x3 : Int32) (S : xS) (z : Int32 × xS), b_M_differ_97 d x0 x1 x2 x3 S = some z → V m_M_differ D (d + 1) S0 (cvI z) 97 [(0, .inr (.inr x0)), (1, .inl x1), (2, .inl x2), (3, .inl x3)] [] S := by
  intro x0 x1 x2 x3 S z h
  unfold b_M_differ_97 at h
  refine x_iload_n 3 d_M_differ_97 rfl rfl ?_
  refine x_aload_n 0 d_M_differ_98 rfl rfl ?_
  refine x_iload_n 1 d_M_differ_99 rfl rfl ?_
  refine x_callV' (M' := m_M_size) (ax := [.inl x1]) (cv := cvI) (host := none) (st := [.int x3]) h (fun q h l => s_M_size d x0 x1 S q h l D) hc_5 rfl d_M_differ_100 wm_M_36 wc_M_size rfl (Nat.le_of_ble_eq_true rfl) (fun q1 h => ?_)
  show V _ _ _ _ _ _ _ (.int q1.1 :: .int x3 :: []) _
  refine x_icmp_lt (tgt := 115) d_M_differ_103 (by decide) h (fun h => ?_) (fun h => ?_)
  · refine x_ls [3] rfl ?_
    exact tb_M_differ_115 x3 q1.2 _ h
  · refine x_iload_n 3 d_M_differ_106 rfl rfl ?_
    refine x_aload_n 0 d_M_differ_107 rfl rfl ?_
    refine x_iload_n 2 d_M_differ_108 rfl rfl ?_
    refine x_callV' (M' := m_M_size) (ax := [.inl x2]) (cv := cvI) (host := none) (st := [.int x3]) h (fun q h l => s_M_size d x0 x2 q1.2 q h l D) hc_5 rfl d_M_differ_109 wm_M_36 wc_M_size rfl (Nat.le_of_ble_eq_true rfl) (fun q2 h => ?_)
    show V _ _ _ _ _ _ _ (.int q2.1 :: .int x3 :: []) _
    refine x_icmp_ge (tgt := 119) d_M_differ_112 (by decide) h (fun h => ?_) (fun h => ?_)
    · refine x_iconst (v := (-1)) d_M_differ_119 (by decide) ?_
      refine x_ls [] rfl ?_
      exact tb_M_differ_120 ((-1)) q2.2 _ h
    · refine x_ls [3] rfl ?_
      exact tb_M_differ_115 x3 q2.2 _ h
set_option maxRecDepth 100000 in
set_option maxHeartbeats 4000000 in
theorem tb_M_differ_34 {D : xD} {d : Nat} {S0 : xS} {k34 : Option Nat → Int32 → Int32 → Int32 → xS → Option (Int32 × xS)} (hk34 : ∀ (x0 : Option Nat) (x1 : Int32) (x2 : Int32) (x3 : Int32)  (S : xS) (z : Int32 × xS), k34 x0 x1 x2 x3 S = some z → V m_M_differ D (d + 1) S0 (cvI z) 34 [(0, .inr (.inr x0)), (1, .inl x1), (2, .inl x2), (3, .inl x3)] [] S) : ∀ (x0 : Option Nat) (x1 : Int32) (x2 : Int32) (x3 : Int32) (S : xS) (z : Int32 × xS), b_M_differ_34 d k34 x0 x1 x2 x3 S = some z → V m_M_differ D (d + 1) S0 (cvI z) 34 [(0, .inr (.inr x0)), (1, .inl x1), (2, .inl x2), (3, .inl x3)] [] S := by
  intro x0 x1 x2 x3 S z h
  unfold b_M_differ_34 at h
  refine x_iload_n 3 d_M_differ_34 rfl rfl ?_
  refine x_aload_n 0 d_M_differ_35 rfl rfl ?_
  refine x_iload_n 1 d_M_differ_36 rfl rfl ?_
  refine x_callV' (M' := m_M_size) (ax := [.inl x1]) (cv := cvI) (host := none) (st := [.int x3]) h (fun q h l => s_M_size d x0 x1 S q h l D) hc_5 rfl d_M_differ_37 wm_M_36 wc_M_size rfl (Nat.le_of_ble_eq_true rfl) (fun q1 h => ?_)
  show V _ _ _ _ _ _ _ (.int q1.1 :: .int x3 :: []) _
  refine x_icmp_ge (tgt := 97) d_M_differ_40 (by decide) h (fun h => ?_) (fun h => ?_)
  · refine x_ls [0, 1, 2, 3] rfl ?_
    exact tb_M_differ_97 x0 x1 x2 x3 q1.2 _ h
  · refine x_iload_n 3 d_M_differ_43 rfl rfl ?_
    refine x_aload_n 0 d_M_differ_44 rfl rfl ?_
    refine x_iload_n 2 d_M_differ_45 rfl rfl ?_
    refine x_callV' (M' := m_M_size) (ax := [.inl x2]) (cv := cvI) (host := none) (st := [.int x3]) h (fun q h l => s_M_size d x0 x2 q1.2 q h l D) hc_5 rfl d_M_differ_46 wm_M_36 wc_M_size rfl (Nat.le_of_ble_eq_true rfl) (fun q2 h => ?_)
    show V _ _ _ _ _ _ _ (.int q2.1 :: .int x3 :: []) _
    refine x_icmp_ge (tgt := 97) d_M_differ_49 (by decide) h (fun h => ?_) (fun h => ?_)
    · refine x_ls [0, 1, 2, 3] rfl ?_
      exact tb_M_differ_97 x0 x1 x2 x3 q2.2 _ h
    · refine x_aload_n 0 d_M_differ_52 rfl rfl ?_
      refine x_getR (host := none) h hc_5 hi_5 (by decide) wf_M_7 d_M_differ_53 (fun v3 h => ?_)
      refine x_aload_n 0 d_M_differ_56 rfl rfl ?_
      refine x_getR (host := none) h hc_5 hi_5 (by decide) wf_M_16 d_M_differ_57 (fun v4 h => ?_)
      refine x_aload_n 0 d_M_differ_60 rfl rfl ?_
      refine x_getR (host := none) h hc_5 hi_5 (by decide) wf_M_13 d_M_differ_61 (fun v5 h => ?_)
      refine x_iload_n 1 d_M_differ_64 rfl rfl ?_
      refine x_iald h ha_3 d_M_differ_65 (fun v6 h => ?_)
      refine x_iload_n 3 d_M_differ_66 rfl rfl ?_
      refine x_iadd d_M_differ_67 ?_
      refine x_iald h ha_3 d_M_differ_68 (fun v7 h => ?_)
      refine x_iald h ha_3 d_M_differ_69 (fun v8 h => ?_)
      refine x_aload_n 0 d_M_differ_70 rfl rfl ?_
      refine x_getR (host := none) h hc_5 hi_5 (by decide) wf_M_7 d_M_differ_71 (fun v9 h => ?_)
      refine x_aload_n 0 d_M_differ_74 rfl rfl ?_
      refine x_getR (host := none) h hc_5 hi_5 (by decide) wf_M_16 d_M_differ_75 (fun v10 h => ?_)
      refine x_aload_n 0 d_M_differ_78 rfl rfl ?_
      refine x_getR (host := none) h hc_5 hi_5 (by decide) wf_M_13 d_M_differ_79 (fun v11 h => ?_)
      refine x_iload_n 2 d_M_differ_82 rfl rfl ?_
      refine x_iald h ha_3 d_M_differ_83 (fun v12 h => ?_)
      refine x_iload_n 3 d_M_differ_84 rfl rfl ?_
      refine x_iadd d_M_differ_85 ?_
      refine x_iald h ha_3 d_M_differ_86 (fun v13 h => ?_)
      refine x_iald h ha_3 d_M_differ_87 (fun v14 h => ?_)
      refine x_icmp_ne (tgt := 97) d_M_differ_88 (by decide) h (fun h => ?_) (fun h => ?_)
      · refine x_ls [0, 1, 2, 3] rfl ?_
        exact tb_M_differ_97 x0 x1 x2 x3 q2.2 _ h
      · refine x_iinc (v := 1) (lv' := [(3, .inl (x3 + 1)), (0, .inr (.inr x0)), (1, .inl x1), (2, .inl x2)]) 3 d_M_differ_91 rfl (by decide) (by decide) rfl ?_
        refine x_goto (tgt := 34) d_M_differ_94 (by decide) ?_
        refine x_ls [1, 2, 3, 0] rfl ?_
        exact hk34 x0 x1 x2 (x3 + 1) q2.2 _ h
theorem tl_M_differ_34 {D : xD} {d : Nat} {S0 : xS} : ∀ (n : Nat) (x0 : Option Nat) (x1 : Int32) (x2 : Int32) (x3 : Int32) (S : xS) (z : Int32 × xS), l_M_differ_34 d n x0 x1 x2 x3 S = some z → V m_M_differ D (d + 1) S0 (cvI z) 34 [(0, .inr (.inr x0)), (1, .inl x1), (2, .inl x2), (3, .inl x3)] [] S := by
  intro n
  induction n with
  | zero =>
    intro x0 x1 x2 x3 S z h
    cases h
  | succ n ih =>
    intro x0 x1 x2 x3 S z h
    exact tb_M_differ_34  ih x0 x1 x2 x3 S z h
set_option maxRecDepth 100000 in
set_option maxHeartbeats 4000000 in
theorem tb_M_differ_20 {D : xD} {d : Nat} {S0 : xS} : ∀ (x0 : Option Nat) (x1 : Int32) (x2 : Int32) (y0 : Int32) (y1 : Option Nat) (S : xS) (z : Int32 × xS), b_M_differ_20 d x0 x1 x2 y0 y1 S = some z → V m_M_differ D (d + 1) S0 (cvI z) 20 [(0, .inr (.inr x0)), (1, .inl x1), (2, .inl x2)] [.int y0, va_rf y1] S := by
  intro x0 x1 x2 y0 y1 S z h
  unfold b_M_differ_20 at h
  refine x_put (host := none) h hc_5 hi_5 tyX_5 ht_5 hn_5 (by decide) rfl rfl rfl wf_M_28 d_M_differ_20 (fun S1 h => ?_)
  refine x_aload_n 0 d_M_differ_23 rfl rfl ?_
  refine x_getI (host := none) h hc_5 hi_5 (by decide) wf_M_28 d_M_differ_24 (fun v2 h => ?_)
  refine x_if_le (tgt := 32) d_M_differ_27 (by decide) h (fun h => ?_) (fun h => ?_)
  · refine x_iconst (v := 0) d_M_differ_32 (by decide) ?_
    refine x_istore_n (lv' := [(3, .inl 0), (0, .inr (.inr x0)), (1, .inl x1), (2, .inl x2)]) d_M_differ_33 rfl (by decide) rfl ?_
    refine x_ls [1, 2, 3, 0] rfl ?_
    exact tl_M_differ_34 xN x0 x1 x2 0 S1 _ h
  · refine x_iconst (v := 0) d_M_differ_30 (by decide) ?_
    cases h
    exact x_iret rfl d_M_differ_31
set_option maxRecDepth 100000 in
set_option maxHeartbeats 4000000 in
theorem tb_M_differ_19 {D : xD} {d : Nat} {S0 : xS} : ∀ (x0 : Option Nat) (x1 : Int32) (x2 : Int32) (y0 : Option Nat) (S : xS) (z : Int32 × xS), b_M_differ_19 d x0 x1 x2 y0 S = some z → V m_M_differ D (d + 1) S0 (cvI z) 19 [(0, .inr (.inr x0)), (1, .inl x1), (2, .inl x2)] [va_rf y0] S := by
  intro x0 x1 x2 y0 S z h
  unfold b_M_differ_19 at h
  refine x_iconst (v := 1) d_M_differ_19 (by decide) ?_
  refine x_ls [0, 1, 2] rfl ?_
  exact tb_M_differ_20 x0 x1 x2 1 y0 S _ h
set_option maxRecDepth 100000 in
set_option maxHeartbeats 4000000 in
theorem te_M_differ {D : xD} {d : Nat} {S0 : xS} : ∀ (p0 : Option Nat) (p1 : Int32) (p2 : Int32) (S : xS) (z : Int32 × xS), e_M_differ d p0 p1 p2 S = some z → V m_M_differ D (d + 1) S0 (cvI z) 0 [(0, .inr (.inr p0)), (1, .inl p1), (2, .inl p2)] [] S := by
  intro p0 p1 p2 S z h
  unfold e_M_differ at h
  refine x_aload_n 0 d_M_differ_0 rfl rfl ?_
  refine x_iload_n 1 d_M_differ_1 rfl rfl ?_
  refine x_callS' (M' := m_M_isText) (ax := [.inl p1]) (cv := cvI) (host := none) (st := [va_rf p0]) h (fun q h l => s_M_isText d p1 S q h l D) rfl d_M_differ_2 wm_M_32 wc_M_isText rfl (Nat.le_of_ble_eq_true rfl) (fun q1 h => ?_)
  show V _ _ _ _ _ _ _ (.int q1.1 :: va_rf p0 :: []) _
  refine x_if_eq (tgt := 19) d_M_differ_5 (by decide) h (fun h => ?_) (fun h => ?_)
  · refine x_ls [0, 1, 2] rfl ?_
    exact tb_M_differ_19 p0 p1 p2 p0 q1.2 _ h
  · refine x_iload_n 2 d_M_differ_8 rfl rfl ?_
    refine x_callS' (M' := m_M_isText) (ax := [.inl p2]) (cv := cvI) (host := none) (st := [va_rf p0]) h (fun q h l => s_M_isText d p2 q1.2 q h l D) rfl d_M_differ_9 wm_M_32 wc_M_isText rfl (Nat.le_of_ble_eq_true rfl) (fun q2 h => ?_)
    show V _ _ _ _ _ _ _ (.int q2.1 :: va_rf p0 :: []) _
    refine x_if_eq (tgt := 19) d_M_differ_12 (by decide) h (fun h => ?_) (fun h => ?_)
    · refine x_ls [0, 1, 2] rfl ?_
      exact tb_M_differ_19 p0 p1 p2 p0 q2.2 _ h
    · refine x_iconst (v := 0) d_M_differ_15 (by decide) ?_
      refine x_goto (tgt := 20) d_M_differ_16 (by decide) ?_
      refine x_ls [0, 1, 2] rfl ?_
      exact tb_M_differ_20 p0 p1 p2 0 p0 q2.2 _ h
theorem s_M_differ : ∀ (d : Nat) (p0 : Option Nat) (p1 : Int32) (p2 : Int32) (S : xS) (z : Int32 × xS), f_M_differ d p0 p1 p2 S = some z → ∀ (l : Launch) (D : xD), xMet l m_M_differ D d [.inr (.inr p0), .inl p1, .inl p2] S (cvI z) := by
  intro d
  induction d with
  | zero =>
    intro p0 p1 p2 S z h
    cases h
  | succ d ih =>
    intro p0 p1 p2 S z h l D
    exact x_ofV rfl (by decide) (Nat.le_of_ble_eq_true rfl) (te_M_differ  p0 p1 p2 S z h)
set_option maxRecDepth 100000 in
set_option maxHeartbeats 4000000 in
theorem tb_M_count_53 {D : xD} {d : Nat} {S0 : xS} : ∀ (y0 : Int32) (S : xS) (z : Int32 × xS), b_M_count_53 d y0 S = some z → V m_M_count D (d + 1) S0 (cvI z) 53 [] [.int y0] S := by
  intro y0 S z h
  unfold b_M_count_53 at h
  cases h
  exact x_iret rfl d_M_count_53
set_option maxRecDepth 100000 in
set_option maxHeartbeats 4000000 in
theorem te_M_count {D : xD} {d : Nat} {S0 : xS} : ∀ (p0 : Option Nat) (p1 : Int32) (S : xS) (z : Int32 × xS), e_M_count d p0 p1 S = some z → V m_M_count D (d + 1) S0 (cvI z) 0 [(0, .inr (.inr p0)), (1, .inl p1)] [] S := by
  intro p0 p1 S z h
  unfold e_M_count at h
  refine x_aload_n 0 d_M_count_0 rfl rfl ?_
  refine x_iconst (v := 0) d_M_count_1 (by decide) ?_
  refine x_put (host := none) h hc_5 hi_5 tyX_5 ht_5 hn_5 (by decide) rfl rfl rfl wf_M_28 d_M_count_2 (fun S1 h => ?_)
  refine x_iload_n 1 d_M_count_5 rfl rfl ?_
  refine x_if_ne (tgt := 16) d_M_count_6 (by decide) h (fun h => ?_) (fun h => ?_)
  · refine x_iload_n 1 d_M_count_16 rfl rfl ?_
    refine x_iconst (v := 1) d_M_count_17 (by decide) ?_
    refine x_icmp_ne (tgt := 31) d_M_count_18 (by decide) h (fun h => ?_) (fun h => ?_)
    · refine x_iload_n 1 d_M_count_31 rfl rfl ?_
      refine x_iconst (v := 2) d_M_count_32 (by decide) ?_
      refine x_icmp_ne (tgt := 43) d_M_count_33 (by decide) h (fun h => ?_) (fun h => ?_)
      · refine x_iload_n 1 d_M_count_43 rfl rfl ?_
        refine x_iconst (v := 3) d_M_count_44 (by decide) ?_
        refine x_icmp_ne (tgt := 52) d_M_count_45 (by decide) h (fun h => ?_) (fun h => ?_)
        · refine x_iconst (v := (-1)) d_M_count_52 (by decide) ?_
          refine x_ls [] rfl ?_
          exact tb_M_count_53 ((-1)) S1 _ h
        · refine x_iconst (v := 1) d_M_count_48 (by decide) ?_
          refine x_goto (tgt := 53) d_M_count_49 (by decide) ?_
          refine x_ls [] rfl ?_
          exact tb_M_count_53 1 S1 _ h
      · refine x_aload_n 0 d_M_count_36 rfl rfl ?_
        refine x_callV' (M' := m_M_allPieces) (ax := []) (cv := cvI) (host := none) (st := []) h (fun q h l => s_M_allPieces d p0 S1 q h l D) hc_5 rfl d_M_count_37 wm_M_62 wc_M_allPieces rfl (Nat.le_of_ble_eq_true rfl) (fun q2 h => ?_)
        show V _ _ _ _ _ _ _ (.int q2.1 :: []) _
        refine x_goto (tgt := 53) d_M_count_40 (by decide) ?_
        refine x_ls [] rfl ?_
        exact tb_M_count_53 q2.1 q2.2 _ h
    · refine x_aload_n 0 d_M_count_21 rfl rfl ?_
      refine x_getR (host := none) h hc_5 hi_5 (by decide) wf_M_13 d_M_count_22 (fun v3 h => ?_)
      refine x_bipush (v := 16) d_M_count_25 (by decide) ?_
      refine x_iald h ha_3 d_M_count_27 (fun v4 h => ?_)
      refine x_goto (tgt := 53) d_M_count_28 (by decide) ?_
      refine x_ls [] rfl ?_
      exact tb_M_count_53 v4 S1 _ h
  · refine x_aload_n 0 d_M_count_9 rfl rfl ?_
    refine x_getI (host := none) h hc_5 hi_5 (by decide) wf_M_46 d_M_count_10 (fun v5 h => ?_)
    refine x_goto (tgt := 53) d_M_count_13 (by decide) ?_
    refine x_ls [] rfl ?_
    exact tb_M_count_53 v5 S1 _ h
theorem s_M_count : ∀ (d : Nat) (p0 : Option Nat) (p1 : Int32) (S : xS) (z : Int32 × xS), f_M_count d p0 p1 S = some z → ∀ (l : Launch) (D : xD), xMet l m_M_count D d [.inr (.inr p0), .inl p1] S (cvI z) := by
  intro d
  induction d with
  | zero =>
    intro p0 p1 S z h
    cases h
  | succ d ih =>
    intro p0 p1 S z h l D
    exact x_ofV rfl (by decide) (Nat.le_of_ble_eq_true rfl) (te_M_count  p0 p1 S z h)
