set_option maxRecDepth 100000 in
set_option maxHeartbeats 4000000 in
theorem te_T_init {D : xD} {d : Nat} {S0 : xS} : ∀ (p0 : Option Nat) (S : xS) (z : Unit × xS), e_T_init d p0 S = some z → V m_T_init D (d + 1) S0 (cvV z) 0 [(0, .inr (.inr p0))] [] S := by
  intro p0 S z h
  unfold e_T_init at h
  refine x_aload_n 0 d_T_init_0 rfl rfl ?_
  refine x_objInit' h d_T_init_1 wO_T_3 w_objI w_objC (Nat.le_of_ble_eq_true rfl) (fun h => ?_)
  cases h
  exact x_vret rfl d_T_init_4
theorem s_T_init : ∀ (d : Nat) (p0 : Option Nat) (S : xS) (z : Unit × xS), f_T_init d p0 S = some z → ∀ (l : Launch) (D : xD), xMet l m_T_init D d [.inr (.inr p0)] S (cvV z) := by
  intro d
  induction d with
  | zero =>
    intro p0 S z h
    cases h
  | succ d ih =>
    intro p0 S z h l D
    exact x_ofV rfl (by decide) (Nat.le_of_ble_eq_true rfl) (te_T_init  p0 S z h)
set_option maxRecDepth 100000 in
set_option maxHeartbeats 4000000 in
theorem tb_T_firstOf_4 {D : xD} {d : Nat} {S0 : xS} {k4 : Option Nat → Option Nat → xS → Option (Option Nat × xS)} (hk4 : ∀ (x1 : Option Nat) (x2 : Option Nat)  (S : xS) (z : Option Nat × xS), k4 x1 x2 S = some z → V m_T_firstOf D (d + 1) S0 (cvR z) 4 [(1, .inr (.inr x1)), (2, .inr (.inr x2))] [] S) : ∀ (x1 : Option Nat) (x2 : Option Nat) (S : xS) (z : Option Nat × xS), b_T_firstOf_4 d k4 x1 x2 S = some z → V m_T_firstOf D (d + 1) S0 (cvR z) 4 [(1, .inr (.inr x1)), (2, .inr (.inr x2))] [] S := by
  intro x1 x2 S z h
  unfold b_T_firstOf_4 at h
  refine x_aload_n 1 d_T_firstOf_4 rfl rfl ?_
  refine x_ifnull (tgt := 18) d_T_firstOf_5 (by decide) h (fun _ h => ?_) (fun _ _ h => ?_)
  · refine x_aload_n 0 d_T_firstOf_18 rfl rfl ?_
    cases h
    exact x_aret rfl d_T_firstOf_19
  · refine x_aload_n 1 d_T_firstOf_8 rfl rfl ?_
    refine x_astore_n (lv' := [(1, .inr (.inr x2)), (2, .inr (.inr x2))]) d_T_firstOf_9 rfl (by decide) rfl ?_
    refine x_aload_n 1 d_T_firstOf_10 rfl rfl ?_
    refine x_getR (host := (some "PieceTexts")) h hc_2 hi_2 (by decide) wf_T_35 d_T_firstOf_11 (fun v2 h => ?_)
    refine x_astore_n (lv' := [(2, .inr (.inr v2)), (1, .inr (.inr x2))]) d_T_firstOf_14 rfl (by decide) rfl ?_
    refine x_goto (tgt := 4) d_T_firstOf_15 (by decide) ?_
    refine x_ls [1, 0] rfl ?_
    exact hk4 x2 v2 S _ h
theorem tl_T_firstOf_4 {D : xD} {d : Nat} {S0 : xS} : ∀ (n : Nat) (x1 : Option Nat) (x2 : Option Nat) (S : xS) (z : Option Nat × xS), l_T_firstOf_4 d n x1 x2 S = some z → V m_T_firstOf D (d + 1) S0 (cvR z) 4 [(1, .inr (.inr x1)), (2, .inr (.inr x2))] [] S := by
  intro n
  induction n with
  | zero =>
    intro x1 x2 S z h
    cases h
  | succ n ih =>
    intro x1 x2 S z h
    exact tb_T_firstOf_4  ih x1 x2 S z h
set_option maxRecDepth 100000 in
set_option maxHeartbeats 4000000 in
theorem te_T_firstOf {D : xD} {d : Nat} {S0 : xS} : ∀ (p0 : Option Nat) (S : xS) (z : Option Nat × xS), e_T_firstOf d p0 S = some z → V m_T_firstOf D (d + 1) S0 (cvR z) 0 [(0, .inr (.inr p0))] [] S := by
  intro p0 S z h
  unfold e_T_firstOf at h
  refine x_null d_T_firstOf_0 ?_
  refine x_astore_n (lv' := [(1, .inr (.inr none)), (0, .inr (.inr p0))]) d_T_firstOf_1 rfl (by decide) rfl ?_
  refine x_aload_n 1 d_T_firstOf_2 rfl rfl ?_
  refine x_astore_n (lv' := [(2, .inr (.inr p0)), (1, .inr (.inr none)), (0, .inr (.inr p0))]) d_T_firstOf_3 rfl (by decide) rfl ?_
  refine x_ls [1, 0] rfl ?_
  exact tl_T_firstOf_4 xN none p0 S _ h
theorem s_T_firstOf : ∀ (d : Nat) (p0 : Option Nat) (S : xS) (z : Option Nat × xS), f_T_firstOf d p0 S = some z → ∀ (l : Launch) (D : xD), xMet l m_T_firstOf D d [.inr (.inr p0)] S (cvR z) := by
  intro d
  induction d with
  | zero =>
    intro p0 S z h
    cases h
  | succ d ih =>
    intro p0 S z h l D
    exact x_ofV rfl (by decide) (Nat.le_of_ble_eq_true rfl) (te_T_firstOf  p0 S z h)
set_option maxRecDepth 100000 in
set_option maxHeartbeats 4000000 in
theorem te_T_giveBack {D : xD} {d : Nat} {S0 : xS} : ∀ (p0 : Option Nat) (p1 : Option Nat) (S : xS) (z : Unit × xS), e_T_giveBack d p0 p1 S = some z → V m_T_giveBack D (d + 1) S0 (cvV z) 0 [(0, .inr (.inr p0)), (1, .inr (.inr p1))] [] S := by
  intro p0 p1 S z h
  unfold e_T_giveBack at h
  refine x_aload_n 1 d_T_giveBack_0 rfl rfl ?_
  refine x_null d_T_giveBack_1 ?_
  refine x_put (host := (some "PieceTexts")) h hc_2 hi_2 tyX_2 ht_2 hn_2 (by decide) rfl (xnar_o _ _) (xfit_o _ _) wf_T_35 d_T_giveBack_2 (fun S1 h => ?_)
  refine x_aload_n 1 d_T_giveBack_5 rfl rfl ?_
  refine x_aload_n 0 d_T_giveBack_6 rfl rfl ?_
  refine x_getR (host := none) h hc_4 hi_4 (by decide) wf_T_9 d_T_giveBack_7 (fun v2 h => ?_)
  refine x_put (host := (some "PieceTexts")) h hc_2 hi_2 tyX_2 ht_2 hn_2 (by decide) rfl (xnar_o _ _) (xfit_o _ _) wf_T_18 d_T_giveBack_10 (fun S3 h => ?_)
  refine x_aload_n 0 d_T_giveBack_13 rfl rfl ?_
  refine x_aload_n 1 d_T_giveBack_14 rfl rfl ?_
  refine x_put (host := none) h hc_4 hi_4 tyX_4 ht_4 hn_4 (by decide) rfl (xnar_o _ _) (xfit_o _ _) wf_T_9 d_T_giveBack_15 (fun S4 h => ?_)
  cases h
  exact x_vret rfl d_T_giveBack_18
theorem s_T_giveBack : ∀ (d : Nat) (p0 : Option Nat) (p1 : Option Nat) (S : xS) (z : Unit × xS), f_T_giveBack d p0 p1 S = some z → ∀ (l : Launch) (D : xD), xMet l m_T_giveBack D d [.inr (.inr p0), .inr (.inr p1)] S (cvV z) := by
  intro d
  induction d with
  | zero =>
    intro p0 p1 S z h
    cases h
  | succ d ih =>
    intro p0 p1 S z h l D
    exact x_ofV rfl (by decide) (Nat.le_of_ble_eq_true rfl) (te_T_giveBack  p0 p1 S z h)
set_option maxRecDepth 100000 in
set_option maxHeartbeats 4000000 in
theorem tb_T_sum_79 {D : xD} {d : Nat} {S0 : xS} : ∀ (x0 : Option Nat) (x1 : Int32) (x2 : Int32) (x3 : Int32) (S : xS) (z : Unit × xS), b_T_sum_79 d x0 x1 x2 x3 S = some z → V m_T_sum D (d + 1) S0 (cvV z) 79 [(0, .inr (.inr x0)), (1, .inl x1), (2, .inl x2), (3, .inl x3)] [] S := by
  intro x0 x1 x2 x3 S z h
  unfold b_T_sum_79 at h
  refine x_aload_n 0 d_T_sum_79 rfl rfl ?_
  refine x_iload_n 1 d_T_sum_80 rfl rfl ?_
  refine x_iconst (v := 1) d_T_sum_81 (by decide) ?_
  refine x_iadd d_T_sum_82 ?_
  refine x_put (host := (some "PieceTexts")) h hc_2 hi_2 tyX_2 ht_2 hn_2 (by decide) rfl rfl rfl wf_T_123 d_T_sum_83 (fun S1 h => ?_)
  refine x_aload_n 0 d_T_sum_86 rfl rfl ?_
  refine x_iload_n 2 d_T_sum_87 rfl rfl ?_
  refine x_put (host := (some "PieceTexts")) h hc_2 hi_2 tyX_2 ht_2 hn_2 (by decide) rfl rfl rfl wf_T_126 d_T_sum_88 (fun S2 h => ?_)
  refine x_aload_n 0 d_T_sum_91 rfl rfl ?_
  refine x_iload_n 3 d_T_sum_92 rfl rfl ?_
  refine x_put (host := (some "PieceTexts")) h hc_2 hi_2 tyX_2 ht_2 hn_2 (by decide) rfl rfl rfl wf_T_129 d_T_sum_93 (fun S3 h => ?_)
  cases h
  exact x_vret rfl d_T_sum_96
set_option maxRecDepth 100000 in
set_option maxHeartbeats 4000000 in
theorem tb_T_sum_42 {D : xD} {d : Nat} {S0 : xS} : ∀ (x0 : Option Nat) (x1 : Int32) (x2 : Int32) (x3 : Int32) (S : xS) (z : Unit × xS), b_T_sum_42 d x0 x1 x2 x3 S = some z → V m_T_sum D (d + 1) S0 (cvV z) 42 [(0, .inr (.inr x0)), (1, .inl x1), (2, .inl x2), (3, .inl x3)] [] S := by
  intro x0 x1 x2 x3 S z h
  unfold b_T_sum_42 at h
  refine x_aload_n 0 d_T_sum_42 rfl rfl ?_
  refine x_getR (host := (some "PieceTexts")) h hc_2 hi_2 (by decide) wf_T_18 d_T_sum_43 (fun v1 h => ?_)
  refine x_astore (lv' := [(5, .inr (.inr v1)), (0, .inr (.inr x0)), (1, .inl x1), (2, .inl x2), (3, .inl x3)]) d_T_sum_46 (by decide) rfl ?_
  refine x_aload 0 d_T_sum_48 rfl ?_
  refine x_ifnull (tgt := 79) d_T_sum_50 (by decide) h (fun _ h => ?_) (fun _ _ h => ?_)
  · refine x_ls [1, 2, 3, 4] rfl ?_
    exact tb_T_sum_79 x0 x1 x2 x3 S _ h
  · refine x_iload_n 2 d_T_sum_53 rfl rfl ?_
    refine x_aload 0 d_T_sum_54 rfl ?_
    refine x_getI (host := (some "PieceTexts")) h hc_2 hi_2 (by decide) wf_T_123 d_T_sum_56 (fun v3 h => ?_)
    refine x_mmax d_T_sum_59 ⟨wh_T_92, whs_max, wi_Math, whc_max⟩ (Nat.le_of_ble_eq_true rfl) ?_
    refine x_istore_n (lv' := [(1, .inl (xmax x1 v3)), (5, .inr (.inr v1)), (0, .inr (.inr x0)), (2, .inl x2), (3, .inl x3)]) d_T_sum_62 rfl (by decide) rfl ?_
    refine x_iload_n 3 d_T_sum_63 rfl rfl ?_
    refine x_aload 1 d_T_sum_64 rfl ?_
    refine x_getI (host := (some "PieceTexts")) h hc_2 hi_2 (by decide) wf_T_126 d_T_sum_66 (fun v4 h => ?_)
    refine x_iadd d_T_sum_69 ?_
    refine x_istore_n (lv' := [(2, .inl (x2 + v4)), (1, .inl (xmax x1 v3)), (5, .inr (.inr v1)), (0, .inr (.inr x0)), (3, .inl x3)]) d_T_sum_70 rfl (by decide) rfl ?_
    refine x_iload_n 4 d_T_sum_71 rfl rfl ?_
    refine x_aload 2 d_T_sum_72 rfl ?_
    refine x_getI (host := (some "PieceTexts")) h hc_2 hi_2 (by decide) wf_T_129 d_T_sum_74 (fun v5 h => ?_)
    refine x_iadd d_T_sum_77 ?_
    refine x_istore_n (lv' := [(3, .inl (x3 + v5)), (2, .inl (x2 + v4)), (1, .inl (xmax x1 v3)), (5, .inr (.inr v1)), (0, .inr (.inr x0))]) d_T_sum_78 rfl (by decide) rfl ?_
    refine x_ls [4, 2, 1, 0] rfl ?_
    exact tb_T_sum_79 x0 (xmax x1 v3) (x2 + v4) (x3 + v5) S _ h
set_option maxRecDepth 100000 in
set_option maxHeartbeats 4000000 in
theorem te_T_sum {D : xD} {d : Nat} {S0 : xS} : ∀ (p0 : Option Nat) (S : xS) (z : Unit × xS), e_T_sum d p0 S = some z → V m_T_sum D (d + 1) S0 (cvV z) 0 [(0, .inr (.inr p0))] [] S := by
  intro p0 S z h
  unfold e_T_sum at h
  refine x_iconst (v := 0) d_T_sum_0 (by decide) ?_
  refine x_istore_n (lv' := [(1, .inl 0), (0, .inr (.inr p0))]) d_T_sum_1 rfl (by decide) rfl ?_
  refine x_iconst (v := 1) d_T_sum_2 (by decide) ?_
  refine x_istore_n (lv' := [(2, .inl 1), (1, .inl 0), (0, .inr (.inr p0))]) d_T_sum_3 rfl (by decide) rfl ?_
  refine x_aload_n 2 d_T_sum_4 rfl rfl ?_
  refine x_getI (host := (some "PieceTexts")) h hc_2 hi_2 (by decide) wf_T_25 d_T_sum_5 (fun v1 h => ?_)
  refine x_istore_n (lv' := [(3, .inl v1), (2, .inl 1), (1, .inl 0), (0, .inr (.inr p0))]) d_T_sum_8 rfl (by decide) rfl ?_
  refine x_aload_n 3 d_T_sum_9 rfl rfl ?_
  refine x_getR (host := (some "PieceTexts")) h hc_2 hi_2 (by decide) wf_T_35 d_T_sum_10 (fun v2 h => ?_)
  refine x_astore (lv' := [(4, .inr (.inr v2)), (3, .inl v1), (2, .inl 1), (1, .inl 0), (0, .inr (.inr p0))]) d_T_sum_13 (by decide) rfl ?_
  refine x_aload 0 d_T_sum_15 rfl ?_
  refine x_ifnull (tgt := 42) d_T_sum_17 (by decide) h (fun _ h => ?_) (fun _ _ h => ?_)
  · refine x_ls [4, 3, 2, 1] rfl ?_
    exact tb_T_sum_42 p0 0 1 v1 S _ h
  · refine x_aload 0 d_T_sum_20 rfl ?_
    refine x_getI (host := (some "PieceTexts")) h hc_2 hi_2 (by decide) wf_T_123 d_T_sum_22 (fun v4 h => ?_)
    refine x_istore_n (lv' := [(1, .inl v4), (4, .inr (.inr v2)), (3, .inl v1), (2, .inl 1), (0, .inr (.inr p0))]) d_T_sum_25 rfl (by decide) rfl ?_
    refine x_iload_n 3 d_T_sum_26 rfl rfl ?_
    refine x_aload 1 d_T_sum_27 rfl ?_
    refine x_getI (host := (some "PieceTexts")) h hc_2 hi_2 (by decide) wf_T_126 d_T_sum_29 (fun v5 h => ?_)
    refine x_iadd d_T_sum_32 ?_
    refine x_istore_n (lv' := [(2, .inl (1 + v5)), (1, .inl v4), (4, .inr (.inr v2)), (3, .inl v1), (0, .inr (.inr p0))]) d_T_sum_33 rfl (by decide) rfl ?_
    refine x_iload_n 3 d_T_sum_34 rfl rfl ?_
    refine x_aload 2 d_T_sum_35 rfl ?_
    refine x_getI (host := (some "PieceTexts")) h hc_2 hi_2 (by decide) wf_T_129 d_T_sum_37 (fun v6 h => ?_)
    refine x_iadd d_T_sum_40 ?_
    refine x_istore_n (lv' := [(3, .inl (v1 + v6)), (2, .inl (1 + v5)), (1, .inl v4), (4, .inr (.inr v2)), (0, .inr (.inr p0))]) d_T_sum_41 rfl (by decide) rfl ?_
    refine x_ls [4, 2, 1, 0] rfl ?_
    exact tb_T_sum_42 p0 v4 (1 + v5) (v1 + v6) S _ h
theorem s_T_sum : ∀ (d : Nat) (p0 : Option Nat) (S : xS) (z : Unit × xS), f_T_sum d p0 S = some z → ∀ (l : Launch) (D : xD), xMet l m_T_sum D d [.inr (.inr p0)] S (cvV z) := by
  intro d
  induction d with
  | zero =>
    intro p0 S z h
    cases h
  | succ d ih =>
    intro p0 S z h l D
    exact x_ofV rfl (by decide) (Nat.le_of_ble_eq_true rfl) (te_T_sum  p0 S z h)
set_option maxRecDepth 100000 in
set_option maxHeartbeats 4000000 in
theorem te_T_raiseLeft {D : xD} {d : Nat} {S0 : xS} : ∀ (p0 : Option Nat) (S : xS) (z : Option Nat × xS), e_T_raiseLeft d p0 S = some z → V m_T_raiseLeft D (d + 1) S0 (cvR z) 0 [(0, .inr (.inr p0))] [] S := by
  intro p0 S z h
  unfold e_T_raiseLeft at h
  refine x_aload_n 0 d_T_raiseLeft_0 rfl rfl ?_
  refine x_getR (host := (some "PieceTexts")) h hc_2 hi_2 (by decide) wf_T_35 d_T_raiseLeft_1 (fun v1 h => ?_)
  refine x_astore_n (lv' := [(1, .inr (.inr v1)), (0, .inr (.inr p0))]) d_T_raiseLeft_4 rfl (by decide) rfl ?_
  refine x_aload_n 0 d_T_raiseLeft_5 rfl rfl ?_
  refine x_ifnonnull (tgt := 11) d_T_raiseLeft_6 (by decide) h (fun _ _ h => ?_) (fun _ h => ?_)
  · refine x_aload_n 1 d_T_raiseLeft_11 rfl rfl ?_
    refine x_aload_n 0 d_T_raiseLeft_12 rfl rfl ?_
    refine x_getR (host := (some "PieceTexts")) h hc_2 hi_2 (by decide) wf_T_18 d_T_raiseLeft_13 (fun v3 h => ?_)
    refine x_put (host := (some "PieceTexts")) h hc_2 hi_2 tyX_2 ht_2 hn_2 (by decide) rfl (xnar_o _ _) (xfit_o _ _) wf_T_35 d_T_raiseLeft_16 (fun S4 h => ?_)
    refine x_aload_n 0 d_T_raiseLeft_19 rfl rfl ?_
    refine x_aload_n 1 d_T_raiseLeft_20 rfl rfl ?_
    refine x_put (host := (some "PieceTexts")) h hc_2 hi_2 tyX_2 ht_2 hn_2 (by decide) rfl (xnar_o _ _) (xfit_o _ _) wf_T_18 d_T_raiseLeft_21 (fun S5 h => ?_)
    refine x_aload_n 1 d_T_raiseLeft_24 rfl rfl ?_
    refine x_callS' (M' := m_T_sum) (ax := [.inr (.inr p0)]) (cv := cvV) (host := none) (st := []) h (fun q h l => s_T_sum d p0 S5 q h l D) rfl d_T_raiseLeft_25 wm_T_108 wc_T_sum rfl (Nat.le_of_ble_eq_true rfl) (fun q6 h => ?_)
    show V _ _ _ _ _ _ _ ([]) _
    refine x_aload_n 0 d_T_raiseLeft_28 rfl rfl ?_
    refine x_callS' (M' := m_T_sum) (ax := [.inr (.inr v1)]) (cv := cvV) (host := none) (st := []) h (fun q h l => s_T_sum d v1 q6.2 q h l D) rfl d_T_raiseLeft_29 wm_T_108 wc_T_sum rfl (Nat.le_of_ble_eq_true rfl) (fun q7 h => ?_)
    show V _ _ _ _ _ _ _ ([]) _
    refine x_aload_n 0 d_T_raiseLeft_32 rfl rfl ?_
    cases h
    exact x_aret rfl d_T_raiseLeft_33
  · refine x_aload_n 1 d_T_raiseLeft_9 rfl rfl ?_
    cases h
    exact x_aret rfl d_T_raiseLeft_10
theorem s_T_raiseLeft : ∀ (d : Nat) (p0 : Option Nat) (S : xS) (z : Option Nat × xS), f_T_raiseLeft d p0 S = some z → ∀ (l : Launch) (D : xD), xMet l m_T_raiseLeft D d [.inr (.inr p0)] S (cvR z) := by
  intro d
  induction d with
  | zero =>
    intro p0 S z h
    cases h
  | succ d ih =>
    intro p0 S z h l D
    exact x_ofV rfl (by decide) (Nat.le_of_ble_eq_true rfl) (te_T_raiseLeft  p0 S z h)
set_option maxRecDepth 100000 in
set_option maxHeartbeats 4000000 in
theorem te_T_raiseRight {D : xD} {d : Nat} {S0 : xS} : ∀ (p0 : Option Nat) (S : xS) (z : Option Nat × xS), e_T_raiseRight d p0 S = some z → V m_T_raiseRight D (d + 1) S0 (cvR z) 0 [(0, .inr (.inr p0))] [] S := by
  intro p0 S z h
  unfold e_T_raiseRight at h
  refine x_aload_n 0 d_T_raiseRight_0 rfl rfl ?_
  refine x_getR (host := (some "PieceTexts")) h hc_2 hi_2 (by decide) wf_T_18 d_T_raiseRight_1 (fun v1 h => ?_)
  refine x_astore_n (lv' := [(1, .inr (.inr v1)), (0, .inr (.inr p0))]) d_T_raiseRight_4 rfl (by decide) rfl ?_
  refine x_aload_n 0 d_T_raiseRight_5 rfl rfl ?_
  refine x_ifnonnull (tgt := 11) d_T_raiseRight_6 (by decide) h (fun _ _ h => ?_) (fun _ h => ?_)
  · refine x_aload_n 1 d_T_raiseRight_11 rfl rfl ?_
    refine x_aload_n 0 d_T_raiseRight_12 rfl rfl ?_
    refine x_getR (host := (some "PieceTexts")) h hc_2 hi_2 (by decide) wf_T_35 d_T_raiseRight_13 (fun v3 h => ?_)
    refine x_put (host := (some "PieceTexts")) h hc_2 hi_2 tyX_2 ht_2 hn_2 (by decide) rfl (xnar_o _ _) (xfit_o _ _) wf_T_18 d_T_raiseRight_16 (fun S4 h => ?_)
    refine x_aload_n 0 d_T_raiseRight_19 rfl rfl ?_
    refine x_aload_n 1 d_T_raiseRight_20 rfl rfl ?_
    refine x_put (host := (some "PieceTexts")) h hc_2 hi_2 tyX_2 ht_2 hn_2 (by decide) rfl (xnar_o _ _) (xfit_o _ _) wf_T_35 d_T_raiseRight_21 (fun S5 h => ?_)
    refine x_aload_n 1 d_T_raiseRight_24 rfl rfl ?_
    refine x_callS' (M' := m_T_sum) (ax := [.inr (.inr p0)]) (cv := cvV) (host := none) (st := []) h (fun q h l => s_T_sum d p0 S5 q h l D) rfl d_T_raiseRight_25 wm_T_108 wc_T_sum rfl (Nat.le_of_ble_eq_true rfl) (fun q6 h => ?_)
    show V _ _ _ _ _ _ _ ([]) _
    refine x_aload_n 0 d_T_raiseRight_28 rfl rfl ?_
    refine x_callS' (M' := m_T_sum) (ax := [.inr (.inr v1)]) (cv := cvV) (host := none) (st := []) h (fun q h l => s_T_sum d v1 q6.2 q h l D) rfl d_T_raiseRight_29 wm_T_108 wc_T_sum rfl (Nat.le_of_ble_eq_true rfl) (fun q7 h => ?_)
    show V _ _ _ _ _ _ _ ([]) _
    refine x_aload_n 0 d_T_raiseRight_32 rfl rfl ?_
    cases h
    exact x_aret rfl d_T_raiseRight_33
  · refine x_aload_n 1 d_T_raiseRight_9 rfl rfl ?_
    cases h
    exact x_aret rfl d_T_raiseRight_10
theorem s_T_raiseRight : ∀ (d : Nat) (p0 : Option Nat) (S : xS) (z : Option Nat × xS), f_T_raiseRight d p0 S = some z → ∀ (l : Launch) (D : xD), xMet l m_T_raiseRight D d [.inr (.inr p0)] S (cvR z) := by
  intro d
  induction d with
  | zero =>
    intro p0 S z h
    cases h
  | succ d ih =>
    intro p0 S z h l D
    exact x_ofV rfl (by decide) (Nat.le_of_ble_eq_true rfl) (te_T_raiseRight  p0 S z h)
set_option maxRecDepth 100000 in
set_option maxHeartbeats 4000000 in
theorem tb_T_balance_102 {D : xD} {d : Nat} {S0 : xS} : ∀ (x0 : Option Nat) (S : xS) (z : Option Nat × xS), b_T_balance_102 d x0 S = some z → V m_T_balance D (d + 1) S0 (cvR z) 102 [(0, .inr (.inr x0))] [] S := by
  intro x0 S z h
  unfold b_T_balance_102 at h
  refine x_aload_n 0 d_T_balance_102 rfl rfl ?_
  cases h
  exact x_aret rfl d_T_balance_103
set_option maxRecDepth 100000 in
set_option maxHeartbeats 4000000 in
theorem tb_T_balance_97 {D : xD} {d : Nat} {S0 : xS} : ∀ (x0 : Option Nat) (S : xS) (z : Option Nat × xS), b_T_balance_97 d x0 S = some z → V m_T_balance D (d + 1) S0 (cvR z) 97 [(0, .inr (.inr x0))] [] S := by
  intro x0 S z h
  unfold b_T_balance_97 at h
  refine x_aload_n 0 d_T_balance_97 rfl rfl ?_
  refine x_callS' (M' := m_T_raiseRight) (ax := [.inr (.inr x0)]) (cv := cvR) (host := none) (st := []) h (fun q h l => s_T_raiseRight d x0 S q h l D) rfl d_T_balance_98 wm_T_117 wc_T_raiseRight rfl (Nat.le_of_ble_eq_true rfl) (fun q1 h => ?_)
  show V _ _ _ _ _ _ _ (va_rf q1.1 :: []) _
  cases h
  exact x_aret rfl d_T_balance_101
set_option maxRecDepth 100000 in
set_option maxHeartbeats 4000000 in
theorem tb_T_balance_63 {D : xD} {d : Nat} {S0 : xS} : ∀ (x0 : Option Nat) (x2 : Option Nat) (x3 : Int32) (S : xS) (z : Option Nat × xS), b_T_balance_63 d x0 x2 x3 S = some z → V m_T_balance D (d + 1) S0 (cvR z) 63 [(0, .inr (.inr x0)), (2, .inr (.inr x2)), (3, .inl x3)] [] S := by
  intro x0 x2 x3 S z h
  unfold b_T_balance_63 at h
  refine x_iload_n 2 d_T_balance_63 rfl rfl ?_
  refine x_iconst (v := (-1)) d_T_balance_64 (by decide) ?_
  refine x_icmp_ge (tgt := 102) d_T_balance_65 (by decide) h (fun h => ?_) (fun h => ?_)
  · refine x_ls [0] rfl ?_
    exact tb_T_balance_102 x0 S _ h
  · refine x_aload_n 1 d_T_balance_68 rfl rfl ?_
    refine x_ifnull (tgt := 102) d_T_balance_69 (by decide) h (fun _ h => ?_) (fun _ _ h => ?_)
    · refine x_ls [0] rfl ?_
      exact tb_T_balance_102 x0 S _ h
    · refine x_aload_n 1 d_T_balance_72 rfl rfl ?_
      refine x_getR (host := (some "PieceTexts")) h hc_2 hi_2 (by decide) wf_T_35 d_T_balance_73 (fun v2 h => ?_)
      refine x_callS' (M' := m_R_heightOf) (ax := [.inr (.inr v2)]) (cv := cvI) (host := (some "PieceTexts")) (st := []) h (fun q h l => s_R_heightOf d v2 S q h l D) rfl d_T_balance_76 wm_T_114 wc_R_heightOf rfl (Nat.le_of_ble_eq_true rfl) (fun q3 h => ?_)
      show V _ _ _ _ _ _ _ (.int q3.1 :: []) _
      refine x_aload_n 1 d_T_balance_79 rfl rfl ?_
      refine x_getR (host := (some "PieceTexts")) h hc_2 hi_2 (by decide) wf_T_18 d_T_balance_80 (fun v4 h => ?_)
      refine x_callS' (M' := m_R_heightOf) (ax := [.inr (.inr v4)]) (cv := cvI) (host := (some "PieceTexts")) (st := [.int q3.1]) h (fun q h l => s_R_heightOf d v4 q3.2 q h l D) rfl d_T_balance_83 wm_T_114 wc_R_heightOf rfl (Nat.le_of_ble_eq_true rfl) (fun q5 h => ?_)
      show V _ _ _ _ _ _ _ (.int q5.1 :: .int q3.1 :: []) _
      refine x_icmp_le (tgt := 97) d_T_balance_86 (by decide) h (fun h => ?_) (fun h => ?_)
      · refine x_ls [0] rfl ?_
        exact tb_T_balance_97 x0 q5.2 _ h
      · refine x_aload_n 0 d_T_balance_89 rfl rfl ?_
        refine x_aload_n 1 d_T_balance_90 rfl rfl ?_
        refine x_callS' (M' := m_T_raiseLeft) (ax := [.inr (.inr x2)]) (cv := cvR) (host := none) (st := [va_rf x0]) h (fun q h l => s_T_raiseLeft d x2 q5.2 q h l D) rfl d_T_balance_91 wm_T_120 wc_T_raiseLeft rfl (Nat.le_of_ble_eq_true rfl) (fun q6 h => ?_)
        show V _ _ _ _ _ _ _ (va_rf q6.1 :: va_rf x0 :: []) _
        refine x_put (host := (some "PieceTexts")) h hc_2 hi_2 tyX_2 ht_2 hn_2 (by decide) rfl (xnar_o _ _) (xfit_o _ _) wf_T_18 d_T_balance_94 (fun S7 h => ?_)
        refine x_ls [0] rfl ?_
        exact tb_T_balance_97 x0 S7 _ h
set_option maxRecDepth 100000 in
set_option maxHeartbeats 4000000 in
theorem tb_T_balance_58 {D : xD} {d : Nat} {S0 : xS} : ∀ (x0 : Option Nat) (S : xS) (z : Option Nat × xS), b_T_balance_58 d x0 S = some z → V m_T_balance D (d + 1) S0 (cvR z) 58 [(0, .inr (.inr x0))] [] S := by
  intro x0 S z h
  unfold b_T_balance_58 at h
  refine x_aload_n 0 d_T_balance_58 rfl rfl ?_
  refine x_callS' (M' := m_T_raiseLeft) (ax := [.inr (.inr x0)]) (cv := cvR) (host := none) (st := []) h (fun q h l => s_T_raiseLeft d x0 S q h l D) rfl d_T_balance_59 wm_T_120 wc_T_raiseLeft rfl (Nat.le_of_ble_eq_true rfl) (fun q1 h => ?_)
  show V _ _ _ _ _ _ _ (va_rf q1.1 :: []) _
  cases h
  exact x_aret rfl d_T_balance_62
set_option maxRecDepth 100000 in
set_option maxHeartbeats 4000000 in
theorem te_T_balance {D : xD} {d : Nat} {S0 : xS} : ∀ (p0 : Option Nat) (S : xS) (z : Option Nat × xS), e_T_balance d p0 S = some z → V m_T_balance D (d + 1) S0 (cvR z) 0 [(0, .inr (.inr p0))] [] S := by
  intro p0 S z h
  unfold e_T_balance at h
  refine x_aload_n 0 d_T_balance_0 rfl rfl ?_
  refine x_callS' (M' := m_T_sum) (ax := [.inr (.inr p0)]) (cv := cvV) (host := none) (st := []) h (fun q h l => s_T_sum d p0 S q h l D) rfl d_T_balance_1 wm_T_108 wc_T_sum rfl (Nat.le_of_ble_eq_true rfl) (fun q1 h => ?_)
  show V _ _ _ _ _ _ _ ([]) _
  refine x_aload_n 0 d_T_balance_4 rfl rfl ?_
  refine x_getR (host := (some "PieceTexts")) h hc_2 hi_2 (by decide) wf_T_35 d_T_balance_5 (fun v2 h => ?_)
  refine x_astore_n (lv' := [(1, .inr (.inr v2)), (0, .inr (.inr p0))]) d_T_balance_8 rfl (by decide) rfl ?_
  refine x_aload_n 1 d_T_balance_9 rfl rfl ?_
  refine x_getR (host := (some "PieceTexts")) h hc_2 hi_2 (by decide) wf_T_18 d_T_balance_10 (fun v3 h => ?_)
  refine x_astore_n (lv' := [(2, .inr (.inr v3)), (1, .inr (.inr v2)), (0, .inr (.inr p0))]) d_T_balance_13 rfl (by decide) rfl ?_
  refine x_aload_n 1 d_T_balance_14 rfl rfl ?_
  refine x_callS' (M' := m_R_heightOf) (ax := [.inr (.inr v2)]) (cv := cvI) (host := (some "PieceTexts")) (st := []) h (fun q h l => s_R_heightOf d v2 q1.2 q h l D) rfl d_T_balance_15 wm_T_114 wc_R_heightOf rfl (Nat.le_of_ble_eq_true rfl) (fun q4 h => ?_)
  show V _ _ _ _ _ _ _ (.int q4.1 :: []) _
  refine x_aload_n 0 d_T_balance_18 rfl rfl ?_
  refine x_callS' (M' := m_R_heightOf) (ax := [.inr (.inr v3)]) (cv := cvI) (host := (some "PieceTexts")) (st := [.int q4.1]) h (fun q h l => s_R_heightOf d v3 q4.2 q h l D) rfl d_T_balance_19 wm_T_114 wc_R_heightOf rfl (Nat.le_of_ble_eq_true rfl) (fun q5 h => ?_)
  show V _ _ _ _ _ _ _ (.int q5.1 :: .int q4.1 :: []) _
  refine x_isub d_T_balance_22 ?_
  refine x_istore_n (lv' := [(3, .inl (q4.1 - q5.1)), (2, .inr (.inr v3)), (1, .inr (.inr v2)), (0, .inr (.inr p0))]) d_T_balance_23 rfl (by decide) rfl ?_
  refine x_iload_n 0 d_T_balance_24 rfl rfl ?_
  refine x_iconst (v := 1) d_T_balance_25 (by decide) ?_
  refine x_icmp_le (tgt := 63) d_T_balance_26 (by decide) h (fun h => ?_) (fun h => ?_)
  · refine x_ls [3, 1, 0] rfl ?_
    exact tb_T_balance_63 p0 v3 (q4.1 - q5.1) q5.2 _ h
  · refine x_aload_n 2 d_T_balance_29 rfl rfl ?_
    refine x_ifnull (tgt := 63) d_T_balance_30 (by decide) h (fun _ h => ?_) (fun _ _ h => ?_)
    · refine x_ls [3, 1, 0] rfl ?_
      exact tb_T_balance_63 p0 v3 (q4.1 - q5.1) q5.2 _ h
    · refine x_aload_n 2 d_T_balance_33 rfl rfl ?_
      refine x_getR (host := (some "PieceTexts")) h hc_2 hi_2 (by decide) wf_T_18 d_T_balance_34 (fun v7 h => ?_)
      refine x_callS' (M' := m_R_heightOf) (ax := [.inr (.inr v7)]) (cv := cvI) (host := (some "PieceTexts")) (st := []) h (fun q h l => s_R_heightOf d v7 q5.2 q h l D) rfl d_T_balance_37 wm_T_114 wc_R_heightOf rfl (Nat.le_of_ble_eq_true rfl) (fun q8 h => ?_)
      show V _ _ _ _ _ _ _ (.int q8.1 :: []) _
      refine x_aload_n 2 d_T_balance_40 rfl rfl ?_
      refine x_getR (host := (some "PieceTexts")) h hc_2 hi_2 (by decide) wf_T_35 d_T_balance_41 (fun v9 h => ?_)
      refine x_callS' (M' := m_R_heightOf) (ax := [.inr (.inr v9)]) (cv := cvI) (host := (some "PieceTexts")) (st := [.int q8.1]) h (fun q h l => s_R_heightOf d v9 q8.2 q h l D) rfl d_T_balance_44 wm_T_114 wc_R_heightOf rfl (Nat.le_of_ble_eq_true rfl) (fun q10 h => ?_)
      show V _ _ _ _ _ _ _ (.int q10.1 :: .int q8.1 :: []) _
      refine x_icmp_le (tgt := 58) d_T_balance_47 (by decide) h (fun h => ?_) (fun h => ?_)
      · refine x_ls [3] rfl ?_
        exact tb_T_balance_58 p0 q10.2 _ h
      · refine x_aload_n 3 d_T_balance_50 rfl rfl ?_
        refine x_aload_n 2 d_T_balance_51 rfl rfl ?_
        refine x_callS' (M' := m_T_raiseRight) (ax := [.inr (.inr v2)]) (cv := cvR) (host := none) (st := [va_rf p0]) h (fun q h l => s_T_raiseRight d v2 q10.2 q h l D) rfl d_T_balance_52 wm_T_117 wc_T_raiseRight rfl (Nat.le_of_ble_eq_true rfl) (fun q11 h => ?_)
        show V _ _ _ _ _ _ _ (va_rf q11.1 :: va_rf p0 :: []) _
        refine x_put (host := (some "PieceTexts")) h hc_2 hi_2 tyX_2 ht_2 hn_2 (by decide) rfl (xnar_o _ _) (xfit_o _ _) wf_T_35 d_T_balance_55 (fun S12 h => ?_)
        refine x_ls [3] rfl ?_
        exact tb_T_balance_58 p0 S12 _ h
theorem s_T_balance : ∀ (d : Nat) (p0 : Option Nat) (S : xS) (z : Option Nat × xS), f_T_balance d p0 S = some z → ∀ (l : Launch) (D : xD), xMet l m_T_balance D d [.inr (.inr p0)] S (cvR z) := by
  intro d
  induction d with
  | zero =>
    intro p0 S z h
    cases h
  | succ d ih =>
    intro p0 S z h l D
    exact x_ofV rfl (by decide) (Nat.le_of_ble_eq_true rfl) (te_T_balance  p0 S z h)
set_option maxRecDepth 100000 in
set_option maxHeartbeats 4000000 in
theorem tb_T_join_81 {D : xD} {d : Nat} {S0 : xS} {fr : Option Nat → Option Nat → Option Nat → Int32 → xS → Option (Option Nat × xS)} (hfr : ∀ (p0 : Option Nat) (p1 : Option Nat) (p2 : Option Nat) (p3 : Int32) (S : xS) (q : Option Nat × xS), fr p0 p1 p2 p3 S = some q → ∀ l, xMet l m_T_join D d [.inr (.inr p0), .inr (.inr p1), .inr (.inr p2), .inl p3] S (cvR q)) : ∀ (x0 : Option Nat) (x1 : Option Nat) (x2 : Option Nat) (S : xS) (z : Option Nat × xS), b_T_join_81 d fr x0 x1 x2 S = some z → V m_T_join D (d + 1) S0 (cvR z) 81 [(0, .inr (.inr x0)), (1, .inr (.inr x1)), (2, .inr (.inr x2))] [] S := by
  intro x0 x1 x2 S z h
  unfold b_T_join_81 at h
  refine x_aload_n 1 d_T_join_81 rfl rfl ?_
  refine x_aload_n 0 d_T_join_82 rfl rfl ?_
  refine x_put (host := (some "PieceTexts")) h hc_2 hi_2 tyX_2 ht_2 hn_2 (by decide) rfl (xnar_o _ _) (xfit_o _ _) wf_T_35 d_T_join_83 (fun S1 h => ?_)
  refine x_aload_n 1 d_T_join_86 rfl rfl ?_
  refine x_aload_n 2 d_T_join_87 rfl rfl ?_
  refine x_put (host := (some "PieceTexts")) h hc_2 hi_2 tyX_2 ht_2 hn_2 (by decide) rfl (xnar_o _ _) (xfit_o _ _) wf_T_18 d_T_join_88 (fun S2 h => ?_)
  refine x_aload_n 1 d_T_join_91 rfl rfl ?_
  refine x_callS' (M' := m_T_sum) (ax := [.inr (.inr x1)]) (cv := cvV) (host := none) (st := []) h (fun q h l => s_T_sum d x1 S2 q h l D) rfl d_T_join_92 wm_T_108 wc_T_sum rfl (Nat.le_of_ble_eq_true rfl) (fun q3 h => ?_)
  show V _ _ _ _ _ _ _ ([]) _
  refine x_aload_n 1 d_T_join_95 rfl rfl ?_
  cases h
  exact x_aret rfl d_T_join_96
set_option maxRecDepth 100000 in
set_option maxHeartbeats 4000000 in
theorem tb_T_join_46 {D : xD} {d : Nat} {S0 : xS} {fr : Option Nat → Option Nat → Option Nat → Int32 → xS → Option (Option Nat × xS)} (hfr : ∀ (p0 : Option Nat) (p1 : Option Nat) (p2 : Option Nat) (p3 : Int32) (S : xS) (q : Option Nat × xS), fr p0 p1 p2 p3 S = some q → ∀ l, xMet l m_T_join D d [.inr (.inr p0), .inr (.inr p1), .inr (.inr p2), .inl p3] S (cvR q)) : ∀ (x0 : Option Nat) (x1 : Option Nat) (x2 : Option Nat) (x3 : Int32) (x4 : Int32) (S : xS) (z : Option Nat × xS), b_T_join_46 d fr x0 x1 x2 x3 x4 S = some z → V m_T_join D (d + 1) S0 (cvR z) 46 [(0, .inr (.inr x0)), (1, .inr (.inr x1)), (2, .inr (.inr x2)), (3, .inl x3), (4, .inl x4)] [] S := by
  intro x0 x1 x2 x3 x4 S z h
  unfold b_T_join_46 at h
  refine x_aload_n 2 d_T_join_46 rfl rfl ?_
  refine x_ifnull (tgt := 81) d_T_join_47 (by decide) h (fun _ h => ?_) (fun _ _ h => ?_)
  · refine x_ls [0, 1, 2] rfl ?_
    exact tb_T_join_81 hfr x0 x1 x2 S _ h
  · refine x_iload 4 d_T_join_50 rfl ?_
    refine x_iconst (v := (-1)) d_T_join_52 (by decide) ?_
    refine x_icmp_ge (tgt := 81) d_T_join_53 (by decide) h (fun h => ?_) (fun h => ?_)
    · refine x_ls [0, 1, 2] rfl ?_
      exact tb_T_join_81 hfr x0 x1 x2 S _ h
    · refine x_iload_n 3 d_T_join_56 rfl rfl ?_
      refine x_if_le (tgt := 81) d_T_join_57 (by decide) h (fun h => ?_) (fun h => ?_)
      · refine x_ls [0, 1, 2] rfl ?_
        exact tb_T_join_81 hfr x0 x1 x2 S _ h
      · refine x_aload_n 2 d_T_join_60 rfl rfl ?_
        refine x_aload_n 0 d_T_join_61 rfl rfl ?_
        refine x_aload_n 1 d_T_join_62 rfl rfl ?_
        refine x_aload_n 2 d_T_join_63 rfl rfl ?_
        refine x_getR (host := (some "PieceTexts")) h hc_2 hi_2 (by decide) wf_T_35 d_T_join_64 (fun v2 h => ?_)
        refine x_iload_n 3 d_T_join_67 rfl rfl ?_
        refine x_iconst (v := 1) d_T_join_68 (by decide) ?_
        refine x_isub d_T_join_69 ?_
        refine x_callS' (M' := m_T_join) (ax := [.inr (.inr x0), .inr (.inr x1), .inr (.inr v2), .inl (x3 - 1)]) (cv := cvR) (host := none) (st := [va_rf x2]) h (fun q h => hfr x0 x1 v2 (x3 - 1) S q h) rfl d_T_join_70 wm_T_61 wc_T_join rfl (Nat.le_of_ble_eq_true rfl) (fun q3 h => ?_)
        show V _ _ _ _ _ _ _ (va_rf q3.1 :: va_rf x2 :: []) _
        refine x_put (host := (some "PieceTexts")) h hc_2 hi_2 tyX_2 ht_2 hn_2 (by decide) rfl (xnar_o _ _) (xfit_o _ _) wf_T_35 d_T_join_73 (fun S4 h => ?_)
        refine x_aload_n 2 d_T_join_76 rfl rfl ?_
        refine x_callS' (M' := m_T_balance) (ax := [.inr (.inr x2)]) (cv := cvR) (host := none) (st := []) h (fun q h l => s_T_balance d x2 S4 q h l D) rfl d_T_join_77 wm_T_111 wc_T_balance rfl (Nat.le_of_ble_eq_true rfl) (fun q5 h => ?_)
        show V _ _ _ _ _ _ _ (va_rf q5.1 :: []) _
        cases h
        exact x_aret rfl d_T_join_80
set_option maxRecDepth 100000 in
set_option maxHeartbeats 4000000 in
theorem te_T_join {D : xD} {d : Nat} {S0 : xS} {fr : Option Nat → Option Nat → Option Nat → Int32 → xS → Option (Option Nat × xS)} (hfr : ∀ (p0 : Option Nat) (p1 : Option Nat) (p2 : Option Nat) (p3 : Int32) (S : xS) (q : Option Nat × xS), fr p0 p1 p2 p3 S = some q → ∀ l, xMet l m_T_join D d [.inr (.inr p0), .inr (.inr p1), .inr (.inr p2), .inl p3] S (cvR q)) : ∀ (p0 : Option Nat) (p1 : Option Nat) (p2 : Option Nat) (p3 : Int32) (S : xS) (z : Option Nat × xS), e_T_join d fr p0 p1 p2 p3 S = some z → V m_T_join D (d + 1) S0 (cvR z) 0 [(0, .inr (.inr p0)), (1, .inr (.inr p1)), (2, .inr (.inr p2)), (3, .inl p3)] [] S := by
  intro p0 p1 p2 p3 S z h
  unfold e_T_join at h
  refine x_aload_n 0 d_T_join_0 rfl rfl ?_
  refine x_callS' (M' := m_R_heightOf) (ax := [.inr (.inr p0)]) (cv := cvI) (host := (some "PieceTexts")) (st := []) h (fun q h l => s_R_heightOf d p0 S q h l D) rfl d_T_join_1 wm_T_114 wc_R_heightOf rfl (Nat.le_of_ble_eq_true rfl) (fun q1 h => ?_)
  show V _ _ _ _ _ _ _ (.int q1.1 :: []) _
  refine x_aload_n 2 d_T_join_4 rfl rfl ?_
  refine x_callS' (M' := m_R_heightOf) (ax := [.inr (.inr p2)]) (cv := cvI) (host := (some "PieceTexts")) (st := [.int q1.1]) h (fun q h l => s_R_heightOf d p2 q1.2 q h l D) rfl d_T_join_5 wm_T_114 wc_R_heightOf rfl (Nat.le_of_ble_eq_true rfl) (fun q2 h => ?_)
  show V _ _ _ _ _ _ _ (.int q2.1 :: .int q1.1 :: []) _
  refine x_isub d_T_join_8 ?_
  refine x_istore (lv' := [(4, .inl (q1.1 - q2.1)), (0, .inr (.inr p0)), (1, .inr (.inr p1)), (2, .inr (.inr p2)), (3, .inl p3)]) d_T_join_9 (by decide) rfl ?_
  refine x_aload_n 1 d_T_join_11 rfl rfl ?_
  refine x_ifnull (tgt := 46) d_T_join_12 (by decide) h (fun _ h => ?_) (fun _ _ h => ?_)
  · refine x_ls [1, 2, 3, 4, 0] rfl ?_
    exact tb_T_join_46 hfr p0 p1 p2 p3 (q1.1 - q2.1) q2.2 _ h
  · refine x_iload 0 d_T_join_15 rfl ?_
    refine x_iconst (v := 1) d_T_join_17 (by decide) ?_
    refine x_icmp_le (tgt := 46) d_T_join_18 (by decide) h (fun h => ?_) (fun h => ?_)
    · refine x_ls [1, 2, 3, 4, 0] rfl ?_
      exact tb_T_join_46 hfr p0 p1 p2 p3 (q1.1 - q2.1) q2.2 _ h
    · refine x_iload_n 4 d_T_join_21 rfl rfl ?_
      refine x_if_le (tgt := 46) d_T_join_22 (by decide) h (fun h => ?_) (fun h => ?_)
      · refine x_ls [1, 2, 3, 4, 0] rfl ?_
        exact tb_T_join_46 hfr p0 p1 p2 p3 (q1.1 - q2.1) q2.2 _ h
      · refine x_aload_n 1 d_T_join_25 rfl rfl ?_
        refine x_aload_n 1 d_T_join_26 rfl rfl ?_
        refine x_getR (host := (some "PieceTexts")) h hc_2 hi_2 (by decide) wf_T_18 d_T_join_27 (fun v4 h => ?_)
        refine x_aload_n 2 d_T_join_30 rfl rfl ?_
        refine x_aload_n 3 d_T_join_31 rfl rfl ?_
        refine x_iload_n 4 d_T_join_32 rfl rfl ?_
        refine x_iconst (v := 1) d_T_join_33 (by decide) ?_
        refine x_isub d_T_join_34 ?_
        refine x_callS' (M' := m_T_join) (ax := [.inr (.inr v4), .inr (.inr p1), .inr (.inr p2), .inl (p3 - 1)]) (cv := cvR) (host := none) (st := [va_rf p0]) h (fun q h => hfr v4 p1 p2 (p3 - 1) q2.2 q h) rfl d_T_join_35 wm_T_61 wc_T_join rfl (Nat.le_of_ble_eq_true rfl) (fun q5 h => ?_)
        show V _ _ _ _ _ _ _ (va_rf q5.1 :: va_rf p0 :: []) _
        refine x_put (host := (some "PieceTexts")) h hc_2 hi_2 tyX_2 ht_2 hn_2 (by decide) rfl (xnar_o _ _) (xfit_o _ _) wf_T_18 d_T_join_38 (fun S6 h => ?_)
        refine x_aload_n 1 d_T_join_41 rfl rfl ?_
        refine x_callS' (M' := m_T_balance) (ax := [.inr (.inr p0)]) (cv := cvR) (host := none) (st := []) h (fun q h l => s_T_balance d p0 S6 q h l D) rfl d_T_join_42 wm_T_111 wc_T_balance rfl (Nat.le_of_ble_eq_true rfl) (fun q7 h => ?_)
        show V _ _ _ _ _ _ _ (va_rf q7.1 :: []) _
        cases h
        exact x_aret rfl d_T_join_45
theorem s_T_join : ∀ (d : Nat) (p0 : Option Nat) (p1 : Option Nat) (p2 : Option Nat) (p3 : Int32) (S : xS) (z : Option Nat × xS), f_T_join d p0 p1 p2 p3 S = some z → ∀ (l : Launch) (D : xD), xMet l m_T_join D d [.inr (.inr p0), .inr (.inr p1), .inr (.inr p2), .inl p3] S (cvR z) := by
  intro d
  induction d with
  | zero =>
    intro p0 p1 p2 p3 S z h
    cases h
  | succ d ih =>
    intro p0 p1 p2 p3 S z h l D
    exact x_ofV rfl (by decide) (Nat.le_of_ble_eq_true rfl) (te_T_join (fun p0 p1 p2 p3 S q h l => ih p0 p1 p2 p3 S q h l D) p0 p1 p2 p3 S z h)
set_option maxRecDepth 100000 in
set_option maxHeartbeats 4000000 in
theorem tb_T_lastOf_4 {D : xD} {d : Nat} {S0 : xS} {k4 : Option Nat → Option Nat → xS → Option (Option Nat × xS)} (hk4 : ∀ (x1 : Option Nat) (x2 : Option Nat)  (S : xS) (z : Option Nat × xS), k4 x1 x2 S = some z → V m_T_lastOf D (d + 1) S0 (cvR z) 4 [(1, .inr (.inr x1)), (2, .inr (.inr x2))] [] S) : ∀ (x1 : Option Nat) (x2 : Option Nat) (S : xS) (z : Option Nat × xS), b_T_lastOf_4 d k4 x1 x2 S = some z → V m_T_lastOf D (d + 1) S0 (cvR z) 4 [(1, .inr (.inr x1)), (2, .inr (.inr x2))] [] S := by
  intro x1 x2 S z h
  unfold b_T_lastOf_4 at h
  refine x_aload_n 1 d_T_lastOf_4 rfl rfl ?_
  refine x_ifnull (tgt := 18) d_T_lastOf_5 (by decide) h (fun _ h => ?_) (fun _ _ h => ?_)
  · refine x_aload_n 0 d_T_lastOf_18 rfl rfl ?_
    cases h
    exact x_aret rfl d_T_lastOf_19
  · refine x_aload_n 1 d_T_lastOf_8 rfl rfl ?_
    refine x_astore_n (lv' := [(1, .inr (.inr x2)), (2, .inr (.inr x2))]) d_T_lastOf_9 rfl (by decide) rfl ?_
    refine x_aload_n 1 d_T_lastOf_10 rfl rfl ?_
    refine x_getR (host := (some "PieceTexts")) h hc_2 hi_2 (by decide) wf_T_18 d_T_lastOf_11 (fun v2 h => ?_)
    refine x_astore_n (lv' := [(2, .inr (.inr v2)), (1, .inr (.inr x2))]) d_T_lastOf_14 rfl (by decide) rfl ?_
    refine x_goto (tgt := 4) d_T_lastOf_15 (by decide) ?_
    refine x_ls [1, 0] rfl ?_
    exact hk4 x2 v2 S _ h
theorem tl_T_lastOf_4 {D : xD} {d : Nat} {S0 : xS} : ∀ (n : Nat) (x1 : Option Nat) (x2 : Option Nat) (S : xS) (z : Option Nat × xS), l_T_lastOf_4 d n x1 x2 S = some z → V m_T_lastOf D (d + 1) S0 (cvR z) 4 [(1, .inr (.inr x1)), (2, .inr (.inr x2))] [] S := by
  intro n
  induction n with
  | zero =>
    intro x1 x2 S z h
    cases h
  | succ n ih =>
    intro x1 x2 S z h
    exact tb_T_lastOf_4  ih x1 x2 S z h
set_option maxRecDepth 100000 in
set_option maxHeartbeats 4000000 in
theorem te_T_lastOf {D : xD} {d : Nat} {S0 : xS} : ∀ (p0 : Option Nat) (S : xS) (z : Option Nat × xS), e_T_lastOf d p0 S = some z → V m_T_lastOf D (d + 1) S0 (cvR z) 0 [(0, .inr (.inr p0))] [] S := by
  intro p0 S z h
  unfold e_T_lastOf at h
  refine x_null d_T_lastOf_0 ?_
  refine x_astore_n (lv' := [(1, .inr (.inr none)), (0, .inr (.inr p0))]) d_T_lastOf_1 rfl (by decide) rfl ?_
  refine x_aload_n 1 d_T_lastOf_2 rfl rfl ?_
  refine x_astore_n (lv' := [(2, .inr (.inr p0)), (1, .inr (.inr none)), (0, .inr (.inr p0))]) d_T_lastOf_3 rfl (by decide) rfl ?_
  refine x_ls [1, 0] rfl ?_
  exact tl_T_lastOf_4 xN none p0 S _ h
theorem s_T_lastOf : ∀ (d : Nat) (p0 : Option Nat) (S : xS) (z : Option Nat × xS), f_T_lastOf d p0 S = some z → ∀ (l : Launch) (D : xD), xMet l m_T_lastOf D d [.inr (.inr p0)] S (cvR z) := by
  intro d
  induction d with
  | zero =>
    intro p0 S z h
    cases h
  | succ d ih =>
    intro p0 S z h l D
    exact x_ofV rfl (by decide) (Nat.le_of_ble_eq_true rfl) (te_T_lastOf  p0 S z h)
set_option maxRecDepth 100000 in
set_option maxHeartbeats 4000000 in
theorem tb_T_withoutFirst_9 {D : xD} {d : Nat} {S0 : xS} {fr : Option Nat → Int32 → xS → Option (Option Nat × xS)} (hfr : ∀ (p0 : Option Nat) (p1 : Int32) (S : xS) (q : Option Nat × xS), fr p0 p1 S = some q → ∀ l, xMet l m_T_withoutFirst D d [.inr (.inr p0), .inl p1] S (cvR q)) : ∀ (x0 : Option Nat) (S : xS) (z : Option Nat × xS), b_T_withoutFirst_9 d fr x0 S = some z → V m_T_withoutFirst D (d + 1) S0 (cvR z) 9 [(0, .inr (.inr x0))] [] S := by
  intro x0 S z h
  unfold b_T_withoutFirst_9 at h
  refine x_aload_n 0 d_T_withoutFirst_9 rfl rfl ?_
  cases h
  exact x_aret rfl d_T_withoutFirst_10
set_option maxRecDepth 100000 in
set_option maxHeartbeats 4000000 in
theorem te_T_withoutFirst {D : xD} {d : Nat} {S0 : xS} {fr : Option Nat → Int32 → xS → Option (Option Nat × xS)} (hfr : ∀ (p0 : Option Nat) (p1 : Int32) (S : xS) (q : Option Nat × xS), fr p0 p1 S = some q → ∀ l, xMet l m_T_withoutFirst D d [.inr (.inr p0), .inl p1] S (cvR q)) : ∀ (p0 : Option Nat) (p1 : Int32) (S : xS) (z : Option Nat × xS), e_T_withoutFirst d fr p0 p1 S = some z → V m_T_withoutFirst D (d + 1) S0 (cvR z) 0 [(0, .inr (.inr p0)), (1, .inl p1)] [] S := by
  intro p0 p1 S z h
  unfold e_T_withoutFirst at h
  refine x_aload_n 0 d_T_withoutFirst_0 rfl rfl ?_
  refine x_ifnull (tgt := 9) d_T_withoutFirst_1 (by decide) h (fun _ h => ?_) (fun _ _ h => ?_)
  · refine x_ls [0] rfl ?_
    exact tb_T_withoutFirst_9 hfr p0 S _ h
  · refine x_iload_n 1 d_T_withoutFirst_4 rfl rfl ?_
    refine x_iconst (v := 1) d_T_withoutFirst_5 (by decide) ?_
    refine x_icmp_ge (tgt := 11) d_T_withoutFirst_6 (by decide) h (fun h => ?_) (fun h => ?_)
    · refine x_aload_n 0 d_T_withoutFirst_11 rfl rfl ?_
      refine x_getR (host := (some "PieceTexts")) h hc_2 hi_2 (by decide) wf_T_35 d_T_withoutFirst_12 (fun v2 h => ?_)
      refine x_ifnonnull (tgt := 23) d_T_withoutFirst_15 (by decide) h (fun _ _ h => ?_) (fun _ h => ?_)
      · refine x_aload_n 0 d_T_withoutFirst_23 rfl rfl ?_
        refine x_aload_n 0 d_T_withoutFirst_24 rfl rfl ?_
        refine x_getR (host := (some "PieceTexts")) h hc_2 hi_2 (by decide) wf_T_35 d_T_withoutFirst_25 (fun v5 h => ?_)
        refine x_iload_n 1 d_T_withoutFirst_28 rfl rfl ?_
        refine x_iconst (v := 1) d_T_withoutFirst_29 (by decide) ?_
        refine x_isub d_T_withoutFirst_30 ?_
        refine x_callS' (M' := m_T_withoutFirst) (ax := [.inr (.inr v5), .inl (p1 - 1)]) (cv := cvR) (host := none) (st := [va_rf p0]) h (fun q h => hfr v5 (p1 - 1) S q h) rfl d_T_withoutFirst_31 wm_T_75 wc_T_withoutFirst rfl (Nat.le_of_ble_eq_true rfl) (fun q6 h => ?_)
        show V _ _ _ _ _ _ _ (va_rf q6.1 :: va_rf p0 :: []) _
        refine x_put (host := (some "PieceTexts")) h hc_2 hi_2 tyX_2 ht_2 hn_2 (by decide) rfl (xnar_o _ _) (xfit_o _ _) wf_T_35 d_T_withoutFirst_34 (fun S7 h => ?_)
        refine x_aload_n 0 d_T_withoutFirst_37 rfl rfl ?_
        refine x_callS' (M' := m_T_balance) (ax := [.inr (.inr p0)]) (cv := cvR) (host := none) (st := []) h (fun q h l => s_T_balance d p0 S7 q h l D) rfl d_T_withoutFirst_38 wm_T_111 wc_T_balance rfl (Nat.le_of_ble_eq_true rfl) (fun q8 h => ?_)
        show V _ _ _ _ _ _ _ (va_rf q8.1 :: []) _
        cases h
        exact x_aret rfl d_T_withoutFirst_41
      · refine x_aload_n 0 d_T_withoutFirst_18 rfl rfl ?_
        refine x_getR (host := (some "PieceTexts")) h hc_2 hi_2 (by decide) wf_T_18 d_T_withoutFirst_19 (fun v4 h => ?_)
        cases h
        exact x_aret rfl d_T_withoutFirst_22
    · refine x_ls [0] rfl ?_
      exact tb_T_withoutFirst_9 hfr p0 S _ h
theorem s_T_withoutFirst : ∀ (d : Nat) (p0 : Option Nat) (p1 : Int32) (S : xS) (z : Option Nat × xS), f_T_withoutFirst d p0 p1 S = some z → ∀ (l : Launch) (D : xD), xMet l m_T_withoutFirst D d [.inr (.inr p0), .inl p1] S (cvR z) := by
  intro d
  induction d with
  | zero =>
    intro p0 p1 S z h
    cases h
  | succ d ih =>
    intro p0 p1 S z h l D
    exact x_ofV rfl (by decide) (Nat.le_of_ble_eq_true rfl) (te_T_withoutFirst (fun p0 p1 S q h l => ih p0 p1 S q h l D) p0 p1 S z h)
set_option maxRecDepth 100000 in
set_option maxHeartbeats 4000000 in
theorem tb_T_withoutLast_9 {D : xD} {d : Nat} {S0 : xS} {fr : Option Nat → Int32 → xS → Option (Option Nat × xS)} (hfr : ∀ (p0 : Option Nat) (p1 : Int32) (S : xS) (q : Option Nat × xS), fr p0 p1 S = some q → ∀ l, xMet l m_T_withoutLast D d [.inr (.inr p0), .inl p1] S (cvR q)) : ∀ (x0 : Option Nat) (S : xS) (z : Option Nat × xS), b_T_withoutLast_9 d fr x0 S = some z → V m_T_withoutLast D (d + 1) S0 (cvR z) 9 [(0, .inr (.inr x0))] [] S := by
  intro x0 S z h
  unfold b_T_withoutLast_9 at h
  refine x_aload_n 0 d_T_withoutLast_9 rfl rfl ?_
  cases h
  exact x_aret rfl d_T_withoutLast_10
set_option maxRecDepth 100000 in
set_option maxHeartbeats 4000000 in
theorem te_T_withoutLast {D : xD} {d : Nat} {S0 : xS} {fr : Option Nat → Int32 → xS → Option (Option Nat × xS)} (hfr : ∀ (p0 : Option Nat) (p1 : Int32) (S : xS) (q : Option Nat × xS), fr p0 p1 S = some q → ∀ l, xMet l m_T_withoutLast D d [.inr (.inr p0), .inl p1] S (cvR q)) : ∀ (p0 : Option Nat) (p1 : Int32) (S : xS) (z : Option Nat × xS), e_T_withoutLast d fr p0 p1 S = some z → V m_T_withoutLast D (d + 1) S0 (cvR z) 0 [(0, .inr (.inr p0)), (1, .inl p1)] [] S := by
  intro p0 p1 S z h
  unfold e_T_withoutLast at h
  refine x_aload_n 0 d_T_withoutLast_0 rfl rfl ?_
  refine x_ifnull (tgt := 9) d_T_withoutLast_1 (by decide) h (fun _ h => ?_) (fun _ _ h => ?_)
  · refine x_ls [0] rfl ?_
    exact tb_T_withoutLast_9 hfr p0 S _ h
  · refine x_iload_n 1 d_T_withoutLast_4 rfl rfl ?_
    refine x_iconst (v := 1) d_T_withoutLast_5 (by decide) ?_
    refine x_icmp_ge (tgt := 11) d_T_withoutLast_6 (by decide) h (fun h => ?_) (fun h => ?_)
    · refine x_aload_n 0 d_T_withoutLast_11 rfl rfl ?_
      refine x_getR (host := (some "PieceTexts")) h hc_2 hi_2 (by decide) wf_T_18 d_T_withoutLast_12 (fun v2 h => ?_)
      refine x_ifnonnull (tgt := 23) d_T_withoutLast_15 (by decide) h (fun _ _ h => ?_) (fun _ h => ?_)
      · refine x_aload_n 0 d_T_withoutLast_23 rfl rfl ?_
        refine x_aload_n 0 d_T_withoutLast_24 rfl rfl ?_
        refine x_getR (host := (some "PieceTexts")) h hc_2 hi_2 (by decide) wf_T_18 d_T_withoutLast_25 (fun v5 h => ?_)
        refine x_iload_n 1 d_T_withoutLast_28 rfl rfl ?_
        refine x_iconst (v := 1) d_T_withoutLast_29 (by decide) ?_
        refine x_isub d_T_withoutLast_30 ?_
        refine x_callS' (M' := m_T_withoutLast) (ax := [.inr (.inr v5), .inl (p1 - 1)]) (cv := cvR) (host := none) (st := [va_rf p0]) h (fun q h => hfr v5 (p1 - 1) S q h) rfl d_T_withoutLast_31 wm_T_79 wc_T_withoutLast rfl (Nat.le_of_ble_eq_true rfl) (fun q6 h => ?_)
        show V _ _ _ _ _ _ _ (va_rf q6.1 :: va_rf p0 :: []) _
        refine x_put (host := (some "PieceTexts")) h hc_2 hi_2 tyX_2 ht_2 hn_2 (by decide) rfl (xnar_o _ _) (xfit_o _ _) wf_T_18 d_T_withoutLast_34 (fun S7 h => ?_)
        refine x_aload_n 0 d_T_withoutLast_37 rfl rfl ?_
        refine x_callS' (M' := m_T_balance) (ax := [.inr (.inr p0)]) (cv := cvR) (host := none) (st := []) h (fun q h l => s_T_balance d p0 S7 q h l D) rfl d_T_withoutLast_38 wm_T_111 wc_T_balance rfl (Nat.le_of_ble_eq_true rfl) (fun q8 h => ?_)
        show V _ _ _ _ _ _ _ (va_rf q8.1 :: []) _
        cases h
        exact x_aret rfl d_T_withoutLast_41
      · refine x_aload_n 0 d_T_withoutLast_18 rfl rfl ?_
        refine x_getR (host := (some "PieceTexts")) h hc_2 hi_2 (by decide) wf_T_35 d_T_withoutLast_19 (fun v4 h => ?_)
        cases h
        exact x_aret rfl d_T_withoutLast_22
    · refine x_ls [0] rfl ?_
      exact tb_T_withoutLast_9 hfr p0 S _ h
theorem s_T_withoutLast : ∀ (d : Nat) (p0 : Option Nat) (p1 : Int32) (S : xS) (z : Option Nat × xS), f_T_withoutLast d p0 p1 S = some z → ∀ (l : Launch) (D : xD), xMet l m_T_withoutLast D d [.inr (.inr p0), .inl p1] S (cvR z) := by
  intro d
  induction d with
  | zero =>
    intro p0 p1 S z h
    cases h
  | succ d ih =>
    intro p0 p1 S z h l D
    exact x_ofV rfl (by decide) (Nat.le_of_ble_eq_true rfl) (te_T_withoutLast (fun p0 p1 S q h l => ih p0 p1 S q h l D) p0 p1 S z h)
set_option maxRecDepth 100000 in
set_option maxHeartbeats 4000000 in
theorem tb_T_meet_84 {D : xD} {d : Nat} {S0 : xS} : ∀ (x1 : Option Nat) (x3 : Option Nat) (x5 : Option Nat) (S : xS) (z : Option Nat × xS), b_T_meet_84 d x1 x3 x5 S = some z → V m_T_meet D (d + 1) S0 (cvR z) 84 [(1, .inr (.inr x1)), (3, .inr (.inr x3)), (5, .inr (.inr x5))] [] S := by
  intro x1 x3 x5 S z h
  unfold b_T_meet_84 at h
  refine x_aload_n 0 d_T_meet_84 rfl rfl ?_
  refine x_bipush (v := 40) d_T_meet_85 (by decide) ?_
  refine x_callS' (M' := m_T_withoutLast) (ax := [.inr (.inr x1), .inl 40]) (cv := cvR) (host := none) (st := []) h (fun q h l => s_T_withoutLast d x1 40 S q h l D) rfl d_T_meet_87 wm_T_79 wc_T_withoutLast rfl (Nat.le_of_ble_eq_true rfl) (fun q1 h => ?_)
  show V _ _ _ _ _ _ _ (va_rf q1.1 :: []) _
  refine x_aload_n 1 d_T_meet_90 rfl rfl ?_
  refine x_aload 2 d_T_meet_91 rfl ?_
  refine x_bipush (v := 40) d_T_meet_93 (by decide) ?_
  refine x_callS' (M' := m_T_join) (ax := [.inr (.inr q1.1), .inr (.inr x3), .inr (.inr x5), .inl 40]) (cv := cvR) (host := none) (st := []) h (fun q h l => s_T_join d q1.1 x3 x5 40 q1.2 q h l D) rfl d_T_meet_95 wm_T_61 wc_T_join rfl (Nat.le_of_ble_eq_true rfl) (fun q2 h => ?_)
  show V _ _ _ _ _ _ _ (va_rf q2.1 :: []) _
  cases h
  exact x_aret rfl d_T_meet_98
set_option maxRecDepth 100000 in
set_option maxHeartbeats 4000000 in
theorem te_T_meet {D : xD} {d : Nat} {S0 : xS} : ∀ (p0 : Option Nat) (p1 : Option Nat) (p2 : Option Nat) (S : xS) (z : Option Nat × xS), e_T_meet d p0 p1 p2 S = some z → V m_T_meet D (d + 1) S0 (cvR z) 0 [(0, .inr (.inr p0)), (1, .inr (.inr p1)), (2, .inr (.inr p2))] [] S := by
  intro p0 p1 p2 S z h
  unfold e_T_meet at h
  refine x_aload_n 1 d_T_meet_0 rfl rfl ?_
  refine x_callS' (M' := m_T_lastOf) (ax := [.inr (.inr p1)]) (cv := cvR) (host := none) (st := []) h (fun q h l => s_T_lastOf d p1 S q h l D) rfl d_T_meet_1 wm_T_69 wc_T_lastOf rfl (Nat.le_of_ble_eq_true rfl) (fun q1 h => ?_)
  show V _ _ _ _ _ _ _ (va_rf q1.1 :: []) _
  refine x_astore_n (lv' := [(3, .inr (.inr q1.1)), (0, .inr (.inr p0)), (1, .inr (.inr p1)), (2, .inr (.inr p2))]) d_T_meet_4 rfl (by decide) rfl ?_
  refine x_aload_n 3 d_T_meet_5 rfl rfl ?_
  refine x_callS' (M' := m_T_firstOf) (ax := [.inr (.inr p2)]) (cv := cvR) (host := none) (st := []) h (fun q h l => s_T_firstOf d p2 q1.2 q h l D) rfl d_T_meet_6 wm_T_72 wc_T_firstOf rfl (Nat.le_of_ble_eq_true rfl) (fun q2 h => ?_)
  show V _ _ _ _ _ _ _ (va_rf q2.1 :: []) _
  refine x_astore (lv' := [(4, .inr (.inr q2.1)), (3, .inr (.inr q1.1)), (0, .inr (.inr p0)), (1, .inr (.inr p1)), (2, .inr (.inr p2))]) d_T_meet_9 (by decide) rfl ?_
  refine x_aload_n 1 d_T_meet_11 rfl rfl ?_
  refine x_ifnonnull (tgt := 17) d_T_meet_12 (by decide) h (fun _ _ h => ?_) (fun _ h => ?_)
  · refine x_aload 0 d_T_meet_17 rfl ?_
    refine x_ifnonnull (tgt := 24) d_T_meet_19 (by decide) h (fun _ _ h => ?_) (fun _ h => ?_)
    · refine x_aload_n 4 d_T_meet_24 rfl rfl ?_
      refine x_astore (lv' := [(5, .inr (.inr p2)), (4, .inr (.inr q2.1)), (3, .inr (.inr q1.1)), (0, .inr (.inr p0)), (1, .inr (.inr p1)), (2, .inr (.inr p2))]) d_T_meet_25 (by decide) rfl ?_
      refine x_aload_n 2 d_T_meet_27 rfl rfl ?_
      refine x_getI (host := (some "PieceTexts")) h hc_2 hi_2 (by decide) wf_T_21 d_T_meet_28 (fun v5 h => ?_)
      refine x_aload_n 2 d_T_meet_31 rfl rfl ?_
      refine x_getI (host := (some "PieceTexts")) h hc_2 hi_2 (by decide) wf_T_25 d_T_meet_32 (fun v6 h => ?_)
      refine x_iadd d_T_meet_35 ?_
      refine x_aload 1 d_T_meet_36 rfl ?_
      refine x_getI (host := (some "PieceTexts")) h hc_2 hi_2 (by decide) wf_T_21 d_T_meet_38 (fun v7 h => ?_)
      refine x_icmp_ne (tgt := 84) d_T_meet_41 (by decide) h (fun h => ?_) (fun h => ?_)
      · refine x_ls [4, 2, 0] rfl ?_
        exact tb_T_meet_84 p1 q1.1 p2 q2.2 _ h
      · refine x_aload_n 2 d_T_meet_44 rfl rfl ?_
        refine x_getI (host := (some "PieceTexts")) h hc_2 hi_2 (by decide) wf_T_28 d_T_meet_45 (fun v8 h => ?_)
        refine x_aload 1 d_T_meet_48 rfl ?_
        refine x_getI (host := (some "PieceTexts")) h hc_2 hi_2 (by decide) wf_T_28 d_T_meet_50 (fun v9 h => ?_)
        refine x_icmp_ne (tgt := 84) d_T_meet_53 (by decide) h (fun h => ?_) (fun h => ?_)
        · refine x_ls [4, 2, 0] rfl ?_
          exact tb_T_meet_84 p1 q1.1 p2 q2.2 _ h
        · refine x_aload_n 5 d_T_meet_56 rfl rfl ?_
          refine x_bipush (v := 40) d_T_meet_57 (by decide) ?_
          refine x_callS' (M' := m_T_withoutFirst) (ax := [.inr (.inr p2), .inl 40]) (cv := cvR) (host := none) (st := []) h (fun q h l => s_T_withoutFirst d p2 40 q2.2 q h l D) rfl d_T_meet_59 wm_T_75 wc_T_withoutFirst rfl (Nat.le_of_ble_eq_true rfl) (fun q10 h => ?_)
          show V _ _ _ _ _ _ _ (va_rf q10.1 :: []) _
          refine x_astore (lv' := [(5, .inr (.inr q10.1)), (4, .inr (.inr q2.1)), (3, .inr (.inr q1.1)), (0, .inr (.inr p0)), (1, .inr (.inr p1)), (2, .inr (.inr p2))]) d_T_meet_62 (by decide) rfl ?_
          refine x_aload_n 2 d_T_meet_64 rfl rfl ?_
          refine x_dup d_T_meet_65 (xcat _) ?_
          refine x_getI (host := (some "PieceTexts")) h hc_2 hi_2 (by decide) wf_T_25 d_T_meet_66 (fun v11 h => ?_)
          refine x_aload 1 d_T_meet_69 rfl ?_
          refine x_getI (host := (some "PieceTexts")) h hc_2 hi_2 (by decide) wf_T_25 d_T_meet_71 (fun v12 h => ?_)
          refine x_iadd d_T_meet_74 ?_
          refine x_put (host := (some "PieceTexts")) h hc_2 hi_2 tyX_2 ht_2 hn_2 (by decide) rfl rfl rfl wf_T_25 d_T_meet_75 (fun S13 h => ?_)
          refine x_aload_n 3 d_T_meet_78 rfl rfl ?_
          refine x_aload 1 d_T_meet_79 rfl ?_
          refine x_callV' (M' := m_T_giveBack) (ax := [.inr (.inr q2.1)]) (cv := cvV) (host := none) (st := []) h (fun q h l => s_T_giveBack d p0 q2.1 S13 q h l D) hc_4 rfl d_T_meet_81 wm_T_42 wc_T_giveBack rfl (Nat.le_of_ble_eq_true rfl) (fun q14 h => ?_)
          show V _ _ _ _ _ _ _ ([]) _
          refine x_ls [4, 2, 0] rfl ?_
          exact tb_T_meet_84 p1 q1.1 q10.1 q14.2 _ h
    · refine x_aload_n 3 d_T_meet_22 rfl rfl ?_
      cases h
      exact x_aret rfl d_T_meet_23
  · refine x_aload_n 4 d_T_meet_15 rfl rfl ?_
    cases h
    exact x_aret rfl d_T_meet_16
theorem s_T_meet : ∀ (d : Nat) (p0 : Option Nat) (p1 : Option Nat) (p2 : Option Nat) (S : xS) (z : Option Nat × xS), f_T_meet d p0 p1 p2 S = some z → ∀ (l : Launch) (D : xD), xMet l m_T_meet D d [.inr (.inr p0), .inr (.inr p1), .inr (.inr p2)] S (cvR z) := by
  intro d
  induction d with
  | zero =>
    intro p0 p1 p2 S z h
    cases h
  | succ d ih =>
    intro p0 p1 p2 S z h l D
    exact x_ofV rfl (by decide) (Nat.le_of_ble_eq_true rfl) (te_T_meet  p0 p1 p2 S z h)
set_option maxRecDepth 100000 in
set_option maxHeartbeats 4000000 in
theorem te_T_alone {D : xD} {d : Nat} {S0 : xS} : ∀ (p0 : Option Nat) (S : xS) (z : Option Nat × xS), e_T_alone d p0 S = some z → V m_T_alone D (d + 1) S0 (cvR z) 0 [(0, .inr (.inr p0))] [] S := by
  intro p0 S z h
  unfold e_T_alone at h
  refine x_aload_n 0 d_T_alone_0 rfl rfl ?_
  refine x_null d_T_alone_1 ?_
  refine x_put (host := (some "PieceTexts")) h hc_2 hi_2 tyX_2 ht_2 hn_2 (by decide) rfl (xnar_o _ _) (xfit_o _ _) wf_T_35 d_T_alone_2 (fun S1 h => ?_)
  refine x_aload_n 0 d_T_alone_5 rfl rfl ?_
  refine x_null d_T_alone_6 ?_
  refine x_put (host := (some "PieceTexts")) h hc_2 hi_2 tyX_2 ht_2 hn_2 (by decide) rfl (xnar_o _ _) (xfit_o _ _) wf_T_18 d_T_alone_7 (fun S2 h => ?_)
  refine x_aload_n 0 d_T_alone_10 rfl rfl ?_
  refine x_callS' (M' := m_T_sum) (ax := [.inr (.inr p0)]) (cv := cvV) (host := none) (st := []) h (fun q h l => s_T_sum d p0 S2 q h l D) rfl d_T_alone_11 wm_T_108 wc_T_sum rfl (Nat.le_of_ble_eq_true rfl) (fun q3 h => ?_)
  show V _ _ _ _ _ _ _ ([]) _
  refine x_aload_n 0 d_T_alone_14 rfl rfl ?_
  cases h
  exact x_aret rfl d_T_alone_15
theorem s_T_alone : ∀ (d : Nat) (p0 : Option Nat) (S : xS) (z : Option Nat × xS), f_T_alone d p0 S = some z → ∀ (l : Launch) (D : xD), xMet l m_T_alone D d [.inr (.inr p0)] S (cvR z) := by
  intro d
  induction d with
  | zero =>
    intro p0 S z h
    cases h
  | succ d ih =>
    intro p0 S z h l D
    exact x_ofV rfl (by decide) (Nat.le_of_ble_eq_true rfl) (te_T_alone  p0 S z h)
set_option maxRecDepth 100000 in
set_option maxHeartbeats 4000000 in
theorem tb_T_take_32 {D : xD} {d : Nat} {S0 : xS} : ∀ (x1 : Int32) (x2 : Int32) (x3 : Int32) (x4 : Option Nat) (S : xS) (z : Option Nat × xS), b_T_take_32 d x1 x2 x3 x4 S = some z → V m_T_take D (d + 1) S0 (cvR z) 32 [(1, .inl x1), (2, .inl x2), (3, .inl x3), (4, .inr (.inr x4))] [] S := by
  intro x1 x2 x3 x4 S z h
  unfold b_T_take_32 at h
  refine x_aload 3 d_T_take_32 rfl ?_
  refine x_iload_n 0 d_T_take_34 rfl rfl ?_
  refine x_put (host := (some "PieceTexts")) h hc_2 hi_2 tyX_2 ht_2 hn_2 (by decide) rfl rfl rfl wf_T_21 d_T_take_35 (fun S1 h => ?_)
  refine x_aload 3 d_T_take_38 rfl ?_
  refine x_iload_n 1 d_T_take_40 rfl rfl ?_
  refine x_put (host := (some "PieceTexts")) h hc_2 hi_2 tyX_2 ht_2 hn_2 (by decide) rfl rfl rfl wf_T_25 d_T_take_41 (fun S2 h => ?_)
  refine x_aload 3 d_T_take_44 rfl ?_
  refine x_iload_n 2 d_T_take_46 rfl rfl ?_
  refine x_put (host := (some "PieceTexts")) h hc_2 hi_2 tyX_2 ht_2 hn_2 (by decide) rfl rfl rfl wf_T_28 d_T_take_47 (fun S3 h => ?_)
  refine x_aload 3 d_T_take_50 rfl ?_
  refine x_callS' (M' := m_T_alone) (ax := [.inr (.inr x4)]) (cv := cvR) (host := none) (st := []) h (fun q h l => s_T_alone d x4 S3 q h l D) rfl d_T_take_52 wm_T_31 wc_T_alone rfl (Nat.le_of_ble_eq_true rfl) (fun q4 h => ?_)
  show V _ _ _ _ _ _ _ (va_rf q4.1 :: []) _
  cases h
  exact x_aret rfl d_T_take_55
set_option maxRecDepth 100000 in
set_option maxHeartbeats 4000000 in
theorem te_T_take {D : xD} {d : Nat} {S0 : xS} : ∀ (p0 : Option Nat) (p1 : Int32) (p2 : Int32) (p3 : Int32) (S : xS) (z : Option Nat × xS), e_T_take d p0 p1 p2 p3 S = some z → V m_T_take D (d + 1) S0 (cvR z) 0 [(0, .inr (.inr p0)), (1, .inl p1), (2, .inl p2), (3, .inl p3)] [] S := by
  intro p0 p1 p2 p3 S z h
  unfold e_T_take at h
  refine x_aload_n 0 d_T_take_0 rfl rfl ?_
  refine x_getR (host := none) h hc_4 hi_4 (by decide) wf_T_9 d_T_take_1 (fun v1 h => ?_)
  refine x_astore (lv' := [(4, .inr (.inr v1)), (0, .inr (.inr p0)), (1, .inl p1), (2, .inl p2), (3, .inl p3)]) d_T_take_4 (by decide) rfl ?_
  refine x_aload 0 d_T_take_6 rfl ?_
  refine x_ifnonnull (tgt := 23) d_T_take_8 (by decide) h (fun _ _ h => ?_) (fun _ h => ?_)
  · refine x_aload_n 1 d_T_take_23 rfl rfl ?_
    refine x_aload 0 d_T_take_24 rfl ?_
    refine x_getR (host := (some "PieceTexts")) h hc_2 hi_2 (by decide) wf_T_18 d_T_take_26 (fun v5 h => ?_)
    refine x_put (host := none) h hc_4 hi_4 tyX_4 ht_4 hn_4 (by decide) rfl (xnar_o _ _) (xfit_o _ _) wf_T_9 d_T_take_29 (fun S6 h => ?_)
    refine x_ls [2, 3, 4, 0] rfl ?_
    exact tb_T_take_32 p1 p2 p3 v1 S6 _ h
  · refine x_new h hc_2 hi_2 tyX_2 ht_2 rfl hdf_2 wk_T_15 wn_2 wi_N d_T_take_11 (fun q3 h => ?_)
    refine x_dup d_T_take_14 (xcat _) ?_
    refine x_callI' (M' := m_N_init) (ax := []) (cv := cvV) (host := (some "PieceTexts")) (st := [va_rf (some q3.1)]) h (fun q h l => s_N_init d (some q3.1) q3.2 q h l D) rfl d_T_take_15 wm_T_17 wc_N_init rfl (Nat.le_of_ble_eq_true rfl) (fun q4 h => ?_)
    show V _ _ _ _ _ _ _ (va_rf (some q3.1) :: []) _
    refine x_astore (lv' := [(4, .inr (.inr (some q3.1))), (0, .inr (.inr p0)), (1, .inl p1), (2, .inl p2), (3, .inl p3)]) d_T_take_18 (by decide) rfl ?_
    refine x_goto (tgt := 32) d_T_take_20 (by decide) ?_
    refine x_ls [2, 3, 4, 0] rfl ?_
    exact tb_T_take_32 p1 p2 p3 (some q3.1) q4.2 _ h
theorem s_T_take : ∀ (d : Nat) (p0 : Option Nat) (p1 : Int32) (p2 : Int32) (p3 : Int32) (S : xS) (z : Option Nat × xS), f_T_take d p0 p1 p2 p3 S = some z → ∀ (l : Launch) (D : xD), xMet l m_T_take D d [.inr (.inr p0), .inl p1, .inl p2, .inl p3] S (cvR z) := by
  intro d
  induction d with
  | zero =>
    intro p0 p1 p2 p3 S z h
    cases h
  | succ d ih =>
    intro p0 p1 p2 p3 S z h l D
    exact x_ofV rfl (by decide) (Nat.le_of_ble_eq_true rfl) (te_T_take  p0 p1 p2 p3 S z h)
set_option maxRecDepth 100000 in
set_option maxHeartbeats 4000000 in
theorem tb_T_partInto_181 {D : xD} {d : Nat} {S0 : xS} {fr : Option Nat → Option Nat → Option Nat → Int32 → Int32 → xS → Option (Unit × xS)} (hfr : ∀ (p0 : Option Nat) (p1 : Option Nat) (p2 : Option Nat) (p3 : Int32) (p4 : Int32) (S : xS) (q : Unit × xS), fr p0 p1 p2 p3 p4 S = some q → ∀ l, xMet l m_T_partInto D d [.inr (.inr p0), .inr (.inr p1), .inr (.inr p2), .inl p3, .inl p4] S (cvV q)) : ∀  (S : xS) (z : Unit × xS), b_T_partInto_181 d fr  S = some z → V m_T_partInto D (d + 1) S0 (cvV z) 181 [] [] S := by
  intro  S z h
  unfold b_T_partInto_181 at h
  cases h
  exact x_vret rfl d_T_partInto_181
set_option maxRecDepth 100000 in
set_option maxHeartbeats 4000000 in
theorem tb_T_partInto_10 {D : xD} {d : Nat} {S0 : xS} {fr : Option Nat → Option Nat → Option Nat → Int32 → Int32 → xS → Option (Unit × xS)} (hfr : ∀ (p0 : Option Nat) (p1 : Option Nat) (p2 : Option Nat) (p3 : Int32) (p4 : Int32) (S : xS) (q : Unit × xS), fr p0 p1 p2 p3 p4 S = some q → ∀ l, xMet l m_T_partInto D d [.inr (.inr p0), .inr (.inr p1), .inr (.inr p2), .inl p3, .inl p4] S (cvV q)) : ∀ (x1 : Option Nat) (x2 : Option Nat) (S : xS) (z : Unit × xS), b_T_partInto_10 d fr x1 x2 S = some z → V m_T_partInto D (d + 1) S0 (cvV z) 10 [(1, .inr (.inr x1)), (2, .inr (.inr x2))] [] S := by
  intro x1 x2 S z h
  unfold b_T_partInto_10 at h
  refine x_aload_n 0 d_T_partInto_10 rfl rfl ?_
  refine x_null d_T_partInto_11 ?_
  refine x_put (host := (some "PieceTexts")) h hc_1 hi_1 tyX_1 ht_1 hn_1 (by decide) rfl (xnar_o _ _) (xfit_o _ _) wf_T_53 d_T_partInto_12 (fun S1 h => ?_)
  refine x_aload_n 0 d_T_partInto_15 rfl rfl ?_
  refine x_aload_n 1 d_T_partInto_16 rfl rfl ?_
  refine x_put (host := (some "PieceTexts")) h hc_1 hi_1 tyX_1 ht_1 hn_1 (by decide) rfl (xnar_o _ _) (xfit_o _ _) wf_T_54 d_T_partInto_17 (fun S2 h => ?_)
  cases h
  exact x_vret rfl d_T_partInto_20
set_option maxRecDepth 100000 in
set_option maxHeartbeats 4000000 in
theorem te_T_partInto {D : xD} {d : Nat} {S0 : xS} {fr : Option Nat → Option Nat → Option Nat → Int32 → Int32 → xS → Option (Unit × xS)} (hfr : ∀ (p0 : Option Nat) (p1 : Option Nat) (p2 : Option Nat) (p3 : Int32) (p4 : Int32) (S : xS) (q : Unit × xS), fr p0 p1 p2 p3 p4 S = some q → ∀ l, xMet l m_T_partInto D d [.inr (.inr p0), .inr (.inr p1), .inr (.inr p2), .inl p3, .inl p4] S (cvV q)) : ∀ (p0 : Option Nat) (p1 : Option Nat) (p2 : Option Nat) (p3 : Int32) (p4 : Int32) (S : xS) (z : Unit × xS), e_T_partInto d fr p0 p1 p2 p3 p4 S = some z → V m_T_partInto D (d + 1) S0 (cvV z) 0 [(0, .inr (.inr p0)), (1, .inr (.inr p1)), (2, .inr (.inr p2)), (3, .inl p3), (4, .inl p4)] [] S := by
  intro p0 p1 p2 p3 p4 S z h
  unfold e_T_partInto at h
  refine x_aload_n 2 d_T_partInto_0 rfl rfl ?_
  refine x_ifnull (tgt := 10) d_T_partInto_1 (by decide) h (fun _ h => ?_) (fun _ _ h => ?_)
  · refine x_ls [1, 2] rfl ?_
    exact tb_T_partInto_10 hfr p1 p2 S _ h
  · refine x_iload 4 d_T_partInto_4 rfl ?_
    refine x_iconst (v := 1) d_T_partInto_6 (by decide) ?_
    refine x_icmp_ge (tgt := 21) d_T_partInto_7 (by decide) h (fun h => ?_) (fun h => ?_)
    · refine x_aload_n 2 d_T_partInto_21 rfl rfl ?_
      refine x_getR (host := (some "PieceTexts")) h hc_2 hi_2 (by decide) wf_T_35 d_T_partInto_22 (fun v2 h => ?_)
      refine x_astore (lv' := [(5, .inr (.inr v2)), (0, .inr (.inr p0)), (1, .inr (.inr p1)), (2, .inr (.inr p2)), (3, .inl p3), (4, .inl p4)]) d_T_partInto_25 (by decide) rfl ?_
      refine x_aload_n 3 d_T_partInto_27 rfl rfl ?_
      refine x_getR (host := (some "PieceTexts")) h hc_2 hi_2 (by decide) wf_T_18 d_T_partInto_28 (fun v3 h => ?_)
      refine x_astore (lv' := [(6, .inr (.inr v3)), (5, .inr (.inr v2)), (0, .inr (.inr p0)), (1, .inr (.inr p1)), (2, .inr (.inr p2)), (3, .inl p3), (4, .inl p4)]) d_T_partInto_31 (by decide) rfl ?_
      refine x_iload_n 5 d_T_partInto_33 rfl rfl ?_
      refine x_aload 1 d_T_partInto_34 rfl ?_
      refine x_callS' (M' := m_R_charactersOf) (ax := [.inr (.inr v2)]) (cv := cvI) (host := (some "PieceTexts")) (st := [.int p3]) h (fun q h l => s_R_charactersOf d v2 S q h l D) rfl d_T_partInto_36 wm_T_55 wc_R_charactersOf rfl (Nat.le_of_ble_eq_true rfl) (fun q4 h => ?_)
      show V _ _ _ _ _ _ _ (.int q4.1 :: .int p3 :: []) _
      refine x_isub d_T_partInto_39 ?_
      refine x_istore (lv' := [(7, .inl (p3 - q4.1)), (6, .inr (.inr v3)), (5, .inr (.inr v2)), (0, .inr (.inr p0)), (1, .inr (.inr p1)), (2, .inr (.inr p2)), (3, .inl p3), (4, .inl p4)]) d_T_partInto_40 (by decide) rfl ?_
      refine x_iload 0 d_T_partInto_42 rfl ?_
      refine x_if_gt (tgt := 78) d_T_partInto_44 (by decide) h (fun h => ?_) (fun h => ?_)
      · refine x_iload 0 d_T_partInto_78 rfl ?_
        refine x_aload_n 5 d_T_partInto_80 rfl rfl ?_
        refine x_getI (host := (some "PieceTexts")) h hc_2 hi_2 (by decide) wf_T_25 d_T_partInto_81 (fun v5 h => ?_)
        refine x_icmp_lt (tgt := 124) d_T_partInto_84 (by decide) h (fun h => ?_) (fun h => ?_)
        · refine x_aload_n 3 d_T_partInto_124 rfl rfl ?_
          refine x_aload_n 5 d_T_partInto_125 rfl rfl ?_
          refine x_getI (host := (some "PieceTexts")) h hc_2 hi_2 (by decide) wf_T_21 d_T_partInto_126 (fun v6 h => ?_)
          refine x_iload 0 d_T_partInto_129 rfl ?_
          refine x_iadd d_T_partInto_131 ?_
          refine x_aload_n 5 d_T_partInto_132 rfl rfl ?_
          refine x_getI (host := (some "PieceTexts")) h hc_2 hi_2 (by decide) wf_T_25 d_T_partInto_133 (fun v7 h => ?_)
          refine x_iload 0 d_T_partInto_136 rfl ?_
          refine x_isub d_T_partInto_138 ?_
          refine x_aload_n 5 d_T_partInto_139 rfl rfl ?_
          refine x_getI (host := (some "PieceTexts")) h hc_2 hi_2 (by decide) wf_T_28 d_T_partInto_140 (fun v8 h => ?_)
          refine x_callV' (M' := m_T_take) (ax := [.inl (v6 + (p3 - q4.1)), .inl (v7 - (p3 - q4.1)), .inl v8]) (cv := cvR) (host := none) (st := []) h (fun q h l => s_T_take d p0 (v6 + (p3 - q4.1)) (v7 - (p3 - q4.1)) v8 q4.2 q h l D) hc_4 rfl d_T_partInto_143 wm_T_65 wc_T_take rfl (Nat.le_of_ble_eq_true rfl) (fun q9 h => ?_)
          show V _ _ _ _ _ _ _ (va_rf q9.1 :: []) _
          refine x_astore (lv' := [(8, .inr (.inr q9.1)), (7, .inl (p3 - q4.1)), (6, .inr (.inr v3)), (5, .inr (.inr v2)), (0, .inr (.inr p0)), (1, .inr (.inr p1)), (2, .inr (.inr p2)), (3, .inl p3), (4, .inl p4)]) d_T_partInto_146 (by decide) rfl ?_
          refine x_aload_n 6 d_T_partInto_148 rfl rfl ?_
          refine x_iload 1 d_T_partInto_149 rfl ?_
          refine x_put (host := (some "PieceTexts")) h hc_2 hi_2 tyX_2 ht_2 hn_2 (by decide) rfl rfl rfl wf_T_25 d_T_partInto_151 (fun S10 h => ?_)
          refine x_aload_n 5 d_T_partInto_154 rfl rfl ?_
          refine x_aload 3 d_T_partInto_155 rfl ?_
          refine x_aload_n 6 d_T_partInto_157 rfl rfl ?_
          refine x_null d_T_partInto_158 ?_
          refine x_bipush (v := 40) d_T_partInto_159 (by decide) ?_
          refine x_callS' (M' := m_T_join) (ax := [.inr (.inr v2), .inr (.inr p2), .inr (.inr none), .inl 40]) (cv := cvR) (host := none) (st := [va_rf p1]) h (fun q h l => s_T_join d v2 p2 none 40 S10 q h l D) rfl d_T_partInto_161 wm_T_61 wc_T_join rfl (Nat.le_of_ble_eq_true rfl) (fun q11 h => ?_)
          show V _ _ _ _ _ _ _ (va_rf q11.1 :: va_rf p1 :: []) _
          refine x_put (host := (some "PieceTexts")) h hc_1 hi_1 tyX_1 ht_1 hn_1 (by decide) rfl (xnar_o _ _) (xfit_o _ _) wf_T_53 d_T_partInto_164 (fun S12 h => ?_)
          refine x_aload_n 5 d_T_partInto_167 rfl rfl ?_
          refine x_null d_T_partInto_168 ?_
          refine x_aload 0 d_T_partInto_169 rfl ?_
          refine x_aload 2 d_T_partInto_171 rfl ?_
          refine x_bipush (v := 40) d_T_partInto_173 (by decide) ?_
          refine x_callS' (M' := m_T_join) (ax := [.inr (.inr none), .inr (.inr q9.1), .inr (.inr v3), .inl 40]) (cv := cvR) (host := none) (st := [va_rf p1]) h (fun q h l => s_T_join d none q9.1 v3 40 S12 q h l D) rfl d_T_partInto_175 wm_T_61 wc_T_join rfl (Nat.le_of_ble_eq_true rfl) (fun q13 h => ?_)
          show V _ _ _ _ _ _ _ (va_rf q13.1 :: va_rf p1 :: []) _
          refine x_put (host := (some "PieceTexts")) h hc_1 hi_1 tyX_1 ht_1 hn_1 (by decide) rfl (xnar_o _ _) (xfit_o _ _) wf_T_54 d_T_partInto_178 (fun S14 h => ?_)
          refine x_ls [] rfl ?_
          exact tb_T_partInto_181 hfr S14 _ h
        · refine x_aload_n 3 d_T_partInto_87 rfl rfl ?_
          refine x_aload_n 4 d_T_partInto_88 rfl rfl ?_
          refine x_aload 1 d_T_partInto_89 rfl ?_
          refine x_iload 0 d_T_partInto_91 rfl ?_
          refine x_aload_n 5 d_T_partInto_93 rfl rfl ?_
          refine x_getI (host := (some "PieceTexts")) h hc_2 hi_2 (by decide) wf_T_25 d_T_partInto_94 (fun v15 h => ?_)
          refine x_isub d_T_partInto_97 ?_
          refine x_iload 7 d_T_partInto_98 rfl ?_
          refine x_iconst (v := 1) d_T_partInto_100 (by decide) ?_
          refine x_isub d_T_partInto_101 ?_
          refine x_callV' (M' := m_T_partInto) (ax := [.inr (.inr p1), .inr (.inr v3), .inl ((p3 - q4.1) - v15), .inl (p4 - 1)]) (cv := cvV) (host := none) (st := []) h (fun q h => hfr p0 p1 v3 ((p3 - q4.1) - v15) (p4 - 1) q4.2 q h) hc_4 rfl d_T_partInto_102 wm_T_49 wc_T_partInto rfl (Nat.le_of_ble_eq_true rfl) (fun q16 h => ?_)
          show V _ _ _ _ _ _ _ ([]) _
          refine x_aload_n 4 d_T_partInto_105 rfl rfl ?_
          refine x_aload 2 d_T_partInto_106 rfl ?_
          refine x_aload_n 5 d_T_partInto_108 rfl rfl ?_
          refine x_aload_n 4 d_T_partInto_109 rfl rfl ?_
          refine x_getR (host := (some "PieceTexts")) h hc_1 hi_1 (by decide) wf_T_53 d_T_partInto_110 (fun v17 h => ?_)
          refine x_bipush (v := 40) d_T_partInto_113 (by decide) ?_
          refine x_callS' (M' := m_T_join) (ax := [.inr (.inr v2), .inr (.inr p2), .inr (.inr v17), .inl 40]) (cv := cvR) (host := none) (st := [va_rf p1]) h (fun q h l => s_T_join d v2 p2 v17 40 q16.2 q h l D) rfl d_T_partInto_115 wm_T_61 wc_T_join rfl (Nat.le_of_ble_eq_true rfl) (fun q18 h => ?_)
          show V _ _ _ _ _ _ _ (va_rf q18.1 :: va_rf p1 :: []) _
          refine x_put (host := (some "PieceTexts")) h hc_1 hi_1 tyX_1 ht_1 hn_1 (by decide) rfl (xnar_o _ _) (xfit_o _ _) wf_T_53 d_T_partInto_118 (fun S19 h => ?_)
          refine x_goto (tgt := 181) d_T_partInto_121 (by decide) ?_
          refine x_ls [] rfl ?_
          exact tb_T_partInto_181 hfr S19 _ h
      · refine x_aload_n 3 d_T_partInto_47 rfl rfl ?_
        refine x_aload_n 4 d_T_partInto_48 rfl rfl ?_
        refine x_aload 2 d_T_partInto_49 rfl ?_
        refine x_iload_n 6 d_T_partInto_51 rfl rfl ?_
        refine x_iload 7 d_T_partInto_52 rfl ?_
        refine x_iconst (v := 1) d_T_partInto_54 (by decide) ?_
        refine x_isub d_T_partInto_55 ?_
        refine x_callV' (M' := m_T_partInto) (ax := [.inr (.inr p1), .inr (.inr v2), .inl p3, .inl (p4 - 1)]) (cv := cvV) (host := none) (st := []) h (fun q h => hfr p0 p1 v2 p3 (p4 - 1) q4.2 q h) hc_4 rfl d_T_partInto_56 wm_T_49 wc_T_partInto rfl (Nat.le_of_ble_eq_true rfl) (fun q20 h => ?_)
        show V _ _ _ _ _ _ _ ([]) _
        refine x_aload_n 4 d_T_partInto_59 rfl rfl ?_
        refine x_aload_n 4 d_T_partInto_60 rfl rfl ?_
        refine x_getR (host := (some "PieceTexts")) h hc_1 hi_1 (by decide) wf_T_54 d_T_partInto_61 (fun v21 h => ?_)
        refine x_aload_n 5 d_T_partInto_64 rfl rfl ?_
        refine x_aload 1 d_T_partInto_65 rfl ?_
        refine x_bipush (v := 40) d_T_partInto_67 (by decide) ?_
        refine x_callS' (M' := m_T_join) (ax := [.inr (.inr v21), .inr (.inr p2), .inr (.inr v3), .inl 40]) (cv := cvR) (host := none) (st := [va_rf p1]) h (fun q h l => s_T_join d v21 p2 v3 40 q20.2 q h l D) rfl d_T_partInto_69 wm_T_61 wc_T_join rfl (Nat.le_of_ble_eq_true rfl) (fun q22 h => ?_)
        show V _ _ _ _ _ _ _ (va_rf q22.1 :: va_rf p1 :: []) _
        refine x_put (host := (some "PieceTexts")) h hc_1 hi_1 tyX_1 ht_1 hn_1 (by decide) rfl (xnar_o _ _) (xfit_o _ _) wf_T_54 d_T_partInto_72 (fun S23 h => ?_)
        refine x_goto (tgt := 181) d_T_partInto_75 (by decide) ?_
        refine x_ls [] rfl ?_
        exact tb_T_partInto_181 hfr S23 _ h
    · refine x_ls [1, 2] rfl ?_
      exact tb_T_partInto_10 hfr p1 p2 S _ h
theorem s_T_partInto : ∀ (d : Nat) (p0 : Option Nat) (p1 : Option Nat) (p2 : Option Nat) (p3 : Int32) (p4 : Int32) (S : xS) (z : Unit × xS), f_T_partInto d p0 p1 p2 p3 p4 S = some z → ∀ (l : Launch) (D : xD), xMet l m_T_partInto D d [.inr (.inr p0), .inr (.inr p1), .inr (.inr p2), .inl p3, .inl p4] S (cvV z) := by
  intro d
  induction d with
  | zero =>
    intro p0 p1 p2 p3 p4 S z h
    cases h
  | succ d ih =>
    intro p0 p1 p2 p3 p4 S z h l D
    exact x_ofV rfl (by decide) (Nat.le_of_ble_eq_true rfl) (te_T_partInto (fun p0 p1 p2 p3 p4 S q h l => ih p0 p1 p2 p3 p4 S q h l D) p0 p1 p2 p3 p4 S z h)
set_option maxRecDepth 100000 in
set_option maxHeartbeats 4000000 in
theorem te_T_part {D : xD} {d : Nat} {S0 : xS} : ∀ (p0 : Option Nat) (p1 : Option Nat) (p2 : Int32) (S : xS) (z : Option Nat × xS), e_T_part d p0 p1 p2 S = some z → V m_T_part D (d + 1) S0 (cvR z) 0 [(0, .inr (.inr p0)), (1, .inr (.inr p1)), (2, .inl p2)] [] S := by
  intro p0 p1 p2 S z h
  unfold e_T_part at h
  refine x_new h hc_1 hi_1 tyX_1 ht_1 rfl hdf_1 wk_T_46 wn_1 wi_H d_T_part_0 (fun q1 h => ?_)
  refine x_dup d_T_part_3 (xcat _) ?_
  refine x_callI' (M' := m_H_init) (ax := []) (cv := cvV) (host := (some "PieceTexts")) (st := [va_rf (some q1.1)]) h (fun q h l => s_H_init d (some q1.1) q1.2 q h l D) rfl d_T_part_4 wm_T_48 wc_H_init rfl (Nat.le_of_ble_eq_true rfl) (fun q2 h => ?_)
  show V _ _ _ _ _ _ _ (va_rf (some q1.1) :: []) _
  refine x_astore_n (lv' := [(3, .inr (.inr (some q1.1))), (0, .inr (.inr p0)), (1, .inr (.inr p1)), (2, .inl p2)]) d_T_part_7 rfl (by decide) rfl ?_
  refine x_aload_n 1 d_T_part_8 rfl rfl ?_
  refine x_aload_n 0 d_T_part_9 rfl rfl ?_
  refine x_aload_n 2 d_T_part_10 rfl rfl ?_
  refine x_iload_n 3 d_T_part_11 rfl rfl ?_
  refine x_bipush (v := 40) d_T_part_12 (by decide) ?_
  refine x_callV' (M' := m_T_partInto) (ax := [.inr (.inr (some q1.1)), .inr (.inr p1), .inl p2, .inl 40]) (cv := cvV) (host := none) (st := []) h (fun q h l => s_T_partInto d p0 (some q1.1) p1 p2 40 q2.2 q h l D) hc_4 rfl d_T_part_14 wm_T_49 wc_T_partInto rfl (Nat.le_of_ble_eq_true rfl) (fun q3 h => ?_)
  show V _ _ _ _ _ _ _ ([]) _
  refine x_aload_n 0 d_T_part_17 rfl rfl ?_
  cases h
  exact x_aret rfl d_T_part_18
theorem s_T_part : ∀ (d : Nat) (p0 : Option Nat) (p1 : Option Nat) (p2 : Int32) (S : xS) (z : Option Nat × xS), f_T_part d p0 p1 p2 S = some z → ∀ (l : Launch) (D : xD), xMet l m_T_part D d [.inr (.inr p0), .inr (.inr p1), .inl p2] S (cvR z) := by
  intro d
  induction d with
  | zero =>
    intro p0 p1 p2 S z h
    cases h
  | succ d ih =>
    intro p0 p1 p2 S z h l D
    exact x_ofV rfl (by decide) (Nat.le_of_ble_eq_true rfl) (te_T_part  p0 p1 p2 S z h)
set_option maxRecDepth 100000 in
set_option maxHeartbeats 4000000 in
theorem tb_T_twin_118 {D : xD} {d : Nat} {S0 : xS} {fr : Option Nat → Option Nat → Int32 → Int32 → Int32 → xS → Option (Option Nat × xS)} (hfr : ∀ (p0 : Option Nat) (p1 : Option Nat) (p2 : Int32) (p3 : Int32) (p4 : Int32) (S : xS) (q : Option Nat × xS), fr p0 p1 p2 p3 p4 S = some q → ∀ l, xMet l m_T_twin D d [.inr (.inr p0), .inr (.inr p1), .inl p2, .inl p3, .inl p4] S (cvR q)) : ∀ (y0 : Option Nat) (S : xS) (z : Option Nat × xS), b_T_twin_118 d fr y0 S = some z → V m_T_twin D (d + 1) S0 (cvR z) 118 [] [va_rf y0] S := by
  intro y0 S z h
  unfold b_T_twin_118 at h
  cases h
  exact x_aret rfl d_T_twin_118
set_option maxRecDepth 100000 in
set_option maxHeartbeats 4000000 in
theorem tb_T_twin_15 {D : xD} {d : Nat} {S0 : xS} {fr : Option Nat → Option Nat → Int32 → Int32 → Int32 → xS → Option (Option Nat × xS)} (hfr : ∀ (p0 : Option Nat) (p1 : Option Nat) (p2 : Int32) (p3 : Int32) (p4 : Int32) (S : xS) (q : Option Nat × xS), fr p0 p1 p2 p3 p4 S = some q → ∀ l, xMet l m_T_twin D d [.inr (.inr p0), .inr (.inr p1), .inl p2, .inl p3, .inl p4] S (cvR q)) : ∀  (S : xS) (z : Option Nat × xS), b_T_twin_15 d fr  S = some z → V m_T_twin D (d + 1) S0 (cvR z) 15 [] [] S := by
  intro  S z h
  unfold b_T_twin_15 at h
  refine x_null d_T_twin_15 ?_
  cases h
  exact x_aret rfl d_T_twin_16
set_option maxRecDepth 100000 in
set_option maxHeartbeats 4000000 in
theorem te_T_twin {D : xD} {d : Nat} {S0 : xS} {fr : Option Nat → Option Nat → Int32 → Int32 → Int32 → xS → Option (Option Nat × xS)} (hfr : ∀ (p0 : Option Nat) (p1 : Option Nat) (p2 : Int32) (p3 : Int32) (p4 : Int32) (S : xS) (q : Option Nat × xS), fr p0 p1 p2 p3 p4 S = some q → ∀ l, xMet l m_T_twin D d [.inr (.inr p0), .inr (.inr p1), .inl p2, .inl p3, .inl p4] S (cvR q)) : ∀ (p0 : Option Nat) (p1 : Option Nat) (p2 : Int32) (p3 : Int32) (p4 : Int32) (S : xS) (z : Option Nat × xS), e_T_twin d fr p0 p1 p2 p3 p4 S = some z → V m_T_twin D (d + 1) S0 (cvR z) 0 [(0, .inr (.inr p0)), (1, .inr (.inr p1)), (2, .inl p2), (3, .inl p3), (4, .inl p4)] [] S := by
  intro p0 p1 p2 p3 p4 S z h
  unfold e_T_twin at h
  refine x_aload_n 1 d_T_twin_0 rfl rfl ?_
  refine x_ifnull (tgt := 15) d_T_twin_1 (by decide) h (fun _ h => ?_) (fun _ _ h => ?_)
  · refine x_ls [] rfl ?_
    exact tb_T_twin_15 hfr S _ h
  · refine x_iload_n 2 d_T_twin_4 rfl rfl ?_
    refine x_iload_n 3 d_T_twin_5 rfl rfl ?_
    refine x_icmp_ge (tgt := 15) d_T_twin_6 (by decide) h (fun h => ?_) (fun h => ?_)
    · refine x_ls [] rfl ?_
      exact tb_T_twin_15 hfr S _ h
    · refine x_iload 4 d_T_twin_9 rfl ?_
      refine x_iconst (v := 1) d_T_twin_11 (by decide) ?_
      refine x_icmp_ge (tgt := 17) d_T_twin_12 (by decide) h (fun h => ?_) (fun h => ?_)
      · refine x_aload_n 1 d_T_twin_17 rfl rfl ?_
        refine x_getR (host := (some "PieceTexts")) h hc_2 hi_2 (by decide) wf_T_35 d_T_twin_18 (fun v2 h => ?_)
        refine x_callS' (M' := m_R_charactersOf) (ax := [.inr (.inr v2)]) (cv := cvI) (host := (some "PieceTexts")) (st := []) h (fun q h l => s_R_charactersOf d v2 S q h l D) rfl d_T_twin_21 wm_T_55 wc_R_charactersOf rfl (Nat.le_of_ble_eq_true rfl) (fun q3 h => ?_)
        show V _ _ _ _ _ _ _ (.int q3.1 :: []) _
        refine x_istore (lv' := [(5, .inl q3.1), (0, .inr (.inr p0)), (1, .inr (.inr p1)), (2, .inl p2), (3, .inl p3), (4, .inl p4)]) d_T_twin_24 (by decide) rfl ?_
        refine x_iload 0 d_T_twin_26 rfl ?_
        refine x_aload_n 2 d_T_twin_28 rfl rfl ?_
        refine x_getI (host := (some "PieceTexts")) h hc_2 hi_2 (by decide) wf_T_25 d_T_twin_29 (fun v4 h => ?_)
        refine x_iadd d_T_twin_32 ?_
        refine x_istore (lv' := [(6, .inl (q3.1 + v4)), (5, .inl q3.1), (0, .inr (.inr p0)), (1, .inr (.inr p1)), (2, .inl p2), (3, .inl p3), (4, .inl p4)]) d_T_twin_33 (by decide) rfl ?_
        refine x_aload_n 2 d_T_twin_35 rfl rfl ?_
        refine x_aload_n 3 d_T_twin_36 rfl rfl ?_
        refine x_getR (host := (some "PieceTexts")) h hc_2 hi_2 (by decide) wf_T_35 d_T_twin_37 (fun v5 h => ?_)
        refine x_iload_n 4 d_T_twin_40 rfl rfl ?_
        refine x_iload_n 5 d_T_twin_41 rfl rfl ?_
        refine x_iload 1 d_T_twin_42 rfl ?_
        refine x_mmin d_T_twin_44 ⟨wh_T_82, whs_min, wi_Math, whc_min⟩ (Nat.le_of_ble_eq_true rfl) ?_
        refine x_iload 6 d_T_twin_47 rfl ?_
        refine x_iconst (v := 1) d_T_twin_49 (by decide) ?_
        refine x_isub d_T_twin_50 ?_
        refine x_callV' (M' := m_T_twin) (ax := [.inr (.inr v5), .inl p2, .inl (xmin p3 q3.1), .inl (p4 - 1)]) (cv := cvR) (host := none) (st := []) h (fun q h => hfr p0 v5 p2 (xmin p3 q3.1) (p4 - 1) q3.2 q h) hc_4 rfl d_T_twin_51 wm_T_88 wc_T_twin rfl (Nat.le_of_ble_eq_true rfl) (fun q6 h => ?_)
        show V _ _ _ _ _ _ _ (va_rf q6.1 :: []) _
        refine x_astore (lv' := [(7, .inr (.inr q6.1)), (6, .inl (q3.1 + v4)), (5, .inl q3.1), (0, .inr (.inr p0)), (1, .inr (.inr p1)), (2, .inl p2), (3, .inl p3), (4, .inl p4)]) d_T_twin_54 (by decide) rfl ?_
        refine x_aload_n 3 d_T_twin_56 rfl rfl ?_
        refine x_aload_n 4 d_T_twin_57 rfl rfl ?_
        refine x_getR (host := (some "PieceTexts")) h hc_2 hi_2 (by decide) wf_T_18 d_T_twin_58 (fun v7 h => ?_)
        refine x_iload_n 5 d_T_twin_61 rfl rfl ?_
        refine x_iload 1 d_T_twin_62 rfl ?_
        refine x_mmax d_T_twin_64 ⟨wh_T_92, whs_max, wi_Math, whc_max⟩ (Nat.le_of_ble_eq_true rfl) ?_
        refine x_iload 1 d_T_twin_67 rfl ?_
        refine x_isub d_T_twin_69 ?_
        refine x_iload_n 6 d_T_twin_70 rfl rfl ?_
        refine x_iload 1 d_T_twin_71 rfl ?_
        refine x_isub d_T_twin_73 ?_
        refine x_iload 7 d_T_twin_74 rfl ?_
        refine x_iconst (v := 1) d_T_twin_76 (by decide) ?_
        refine x_isub d_T_twin_77 ?_
        refine x_callV' (M' := m_T_twin) (ax := [.inr (.inr v7), .inl ((xmax p2 (q3.1 + v4)) - (q3.1 + v4)), .inl (p3 - (q3.1 + v4)), .inl (p4 - 1)]) (cv := cvR) (host := none) (st := []) h (fun q h => hfr p0 v7 ((xmax p2 (q3.1 + v4)) - (q3.1 + v4)) (p3 - (q3.1 + v4)) (p4 - 1) q6.2 q h) hc_4 rfl d_T_twin_78 wm_T_88 wc_T_twin rfl (Nat.le_of_ble_eq_true rfl) (fun q8 h => ?_)
        show V _ _ _ _ _ _ _ (va_rf q8.1 :: []) _
        refine x_astore (lv' := [(8, .inr (.inr q8.1)), (7, .inr (.inr q6.1)), (6, .inl (q3.1 + v4)), (5, .inl q3.1), (0, .inr (.inr p0)), (1, .inr (.inr p1)), (2, .inl p2), (3, .inl p3), (4, .inl p4)]) d_T_twin_81 (by decide) rfl ?_
        refine x_iload_n 6 d_T_twin_83 rfl rfl ?_
        refine x_iload 3 d_T_twin_84 rfl ?_
        refine x_mmax d_T_twin_86 ⟨wh_T_92, whs_max, wi_Math, whc_max⟩ (Nat.le_of_ble_eq_true rfl) ?_
        refine x_istore (lv' := [(9, .inl (xmax p2 q3.1)), (8, .inr (.inr q8.1)), (7, .inr (.inr q6.1)), (6, .inl (q3.1 + v4)), (5, .inl q3.1), (0, .inr (.inr p0)), (1, .inr (.inr p1)), (2, .inl p2), (3, .inl p3), (4, .inl p4)]) d_T_twin_89 (by decide) rfl ?_
        refine x_iload_n 8 d_T_twin_91 rfl rfl ?_
        refine x_iload 3 d_T_twin_92 rfl ?_
        refine x_mmin d_T_twin_94 ⟨wh_T_82, whs_min, wi_Math, whc_min⟩ (Nat.le_of_ble_eq_true rfl) ?_
        refine x_istore (lv' := [(10, .inl (xmin p3 (q3.1 + v4))), (9, .inl (xmax p2 q3.1)), (8, .inr (.inr q8.1)), (7, .inr (.inr q6.1)), (6, .inl (q3.1 + v4)), (5, .inl q3.1), (0, .inr (.inr p0)), (1, .inr (.inr p1)), (2, .inl p2), (3, .inl p3), (4, .inl p4)]) d_T_twin_97 (by decide) rfl ?_
        refine x_iload 1 d_T_twin_99 rfl ?_
        refine x_iload 0 d_T_twin_101 rfl ?_
        refine x_icmp_lt (tgt := 119) d_T_twin_103 (by decide) h (fun h => ?_) (fun h => ?_)
        · refine x_aload 3 d_T_twin_119 rfl ?_
          refine x_aload_n 6 d_T_twin_121 rfl rfl ?_
          refine x_aload_n 7 d_T_twin_122 rfl rfl ?_
          refine x_getI (host := (some "PieceTexts")) h hc_2 hi_2 (by decide) wf_T_21 d_T_twin_123 (fun v9 h => ?_)
          refine x_iload 1 d_T_twin_126 rfl ?_
          refine x_iadd d_T_twin_128 ?_
          refine x_iload 5 d_T_twin_129 rfl ?_
          refine x_isub d_T_twin_131 ?_
          refine x_iload 0 d_T_twin_132 rfl ?_
          refine x_iload 1 d_T_twin_134 rfl ?_
          refine x_isub d_T_twin_136 ?_
          refine x_aload_n 7 d_T_twin_137 rfl rfl ?_
          refine x_getI (host := (some "PieceTexts")) h hc_2 hi_2 (by decide) wf_T_28 d_T_twin_138 (fun v10 h => ?_)
          refine x_callV' (M' := m_T_take) (ax := [.inl ((v9 + (xmax p2 q3.1)) - q3.1), .inl ((xmin p3 (q3.1 + v4)) - (xmax p2 q3.1)), .inl v10]) (cv := cvR) (host := none) (st := [va_rf q6.1]) h (fun q h l => s_T_take d p0 ((v9 + (xmax p2 q3.1)) - q3.1) ((xmin p3 (q3.1 + v4)) - (xmax p2 q3.1)) v10 q8.2 q h l D) hc_4 rfl d_T_twin_141 wm_T_65 wc_T_take rfl (Nat.le_of_ble_eq_true rfl) (fun q11 h => ?_)
          show V _ _ _ _ _ _ _ (va_rf q11.1 :: va_rf q6.1 :: []) _
          refine x_aload 2 d_T_twin_144 rfl ?_
          refine x_bipush (v := 40) d_T_twin_146 (by decide) ?_
          refine x_callS' (M' := m_T_join) (ax := [.inr (.inr q6.1), .inr (.inr q11.1), .inr (.inr q8.1), .inl 40]) (cv := cvR) (host := none) (st := []) h (fun q h l => s_T_join d q6.1 q11.1 q8.1 40 q11.2 q h l D) rfl d_T_twin_148 wm_T_61 wc_T_join rfl (Nat.le_of_ble_eq_true rfl) (fun q12 h => ?_)
          show V _ _ _ _ _ _ _ (va_rf q12.1 :: []) _
          cases h
          exact x_aret rfl d_T_twin_151
        · refine x_aload 3 d_T_twin_106 rfl ?_
          refine x_ifnonnull (tgt := 116) d_T_twin_108 (by decide) h (fun _ _ h => ?_) (fun _ h => ?_)
          · refine x_aload 3 d_T_twin_116 rfl ?_
            refine x_ls [] rfl ?_
            exact tb_T_twin_118 hfr q6.1 q8.2 _ h
          · refine x_aload 2 d_T_twin_111 rfl ?_
            refine x_goto (tgt := 118) d_T_twin_113 (by decide) ?_
            refine x_ls [] rfl ?_
            exact tb_T_twin_118 hfr q8.1 q8.2 _ h
      · refine x_ls [] rfl ?_
        exact tb_T_twin_15 hfr S _ h
theorem s_T_twin : ∀ (d : Nat) (p0 : Option Nat) (p1 : Option Nat) (p2 : Int32) (p3 : Int32) (p4 : Int32) (S : xS) (z : Option Nat × xS), f_T_twin d p0 p1 p2 p3 p4 S = some z → ∀ (l : Launch) (D : xD), xMet l m_T_twin D d [.inr (.inr p0), .inr (.inr p1), .inl p2, .inl p3, .inl p4] S (cvR z) := by
  intro d
  induction d with
  | zero =>
    intro p0 p1 p2 p3 p4 S z h
    cases h
  | succ d ih =>
    intro p0 p1 p2 p3 p4 S z h l D
    exact x_ofV rfl (by decide) (Nat.le_of_ble_eq_true rfl) (te_T_twin (fun p0 p1 p2 p3 p4 S q h l => ih p0 p1 p2 p3 p4 S q h l D) p0 p1 p2 p3 p4 S z h)
set_option maxRecDepth 100000 in
set_option maxHeartbeats 4000000 in
theorem tb_T_retag_10 {D : xD} {d : Nat} {S0 : xS} {fr : Option Nat → Option Nat → Int32 → Int32 → Int32 → xS → Option (Option Nat × xS)} (hfr : ∀ (p0 : Option Nat) (p1 : Option Nat) (p2 : Int32) (p3 : Int32) (p4 : Int32) (S : xS) (q : Option Nat × xS), fr p0 p1 p2 p3 p4 S = some q → ∀ l, xMet l m_T_retag D d [.inr (.inr p0), .inr (.inr p1), .inl p2, .inl p3, .inl p4] S (cvR q)) : ∀ (x1 : Option Nat) (S : xS) (z : Option Nat × xS), b_T_retag_10 d fr x1 S = some z → V m_T_retag D (d + 1) S0 (cvR z) 10 [(1, .inr (.inr x1))] [] S := by
  intro x1 S z h
  unfold b_T_retag_10 at h
  refine x_aload_n 0 d_T_retag_10 rfl rfl ?_
  cases h
  exact x_aret rfl d_T_retag_11
set_option maxRecDepth 100000 in
set_option maxHeartbeats 4000000 in
theorem te_T_retag {D : xD} {d : Nat} {S0 : xS} {fr : Option Nat → Option Nat → Int32 → Int32 → Int32 → xS → Option (Option Nat × xS)} (hfr : ∀ (p0 : Option Nat) (p1 : Option Nat) (p2 : Int32) (p3 : Int32) (p4 : Int32) (S : xS) (q : Option Nat × xS), fr p0 p1 p2 p3 p4 S = some q → ∀ l, xMet l m_T_retag D d [.inr (.inr p0), .inr (.inr p1), .inl p2, .inl p3, .inl p4] S (cvR q)) : ∀ (p0 : Option Nat) (p1 : Option Nat) (p2 : Int32) (p3 : Int32) (p4 : Int32) (S : xS) (z : Option Nat × xS), e_T_retag d fr p0 p1 p2 p3 p4 S = some z → V m_T_retag D (d + 1) S0 (cvR z) 0 [(0, .inr (.inr p0)), (1, .inr (.inr p1)), (2, .inl p2), (3, .inl p3), (4, .inl p4)] [] S := by
  intro p0 p1 p2 p3 p4 S z h
  unfold e_T_retag at h
  refine x_aload_n 1 d_T_retag_0 rfl rfl ?_
  refine x_ifnull (tgt := 10) d_T_retag_1 (by decide) h (fun _ h => ?_) (fun _ _ h => ?_)
  · refine x_ls [1] rfl ?_
    exact tb_T_retag_10 hfr p1 S _ h
  · refine x_iload 4 d_T_retag_4 rfl ?_
    refine x_iconst (v := 1) d_T_retag_6 (by decide) ?_
    refine x_icmp_ge (tgt := 12) d_T_retag_7 (by decide) h (fun h => ?_) (fun h => ?_)
    · refine x_aload_n 0 d_T_retag_12 rfl rfl ?_
      refine x_aload_n 1 d_T_retag_13 rfl rfl ?_
      refine x_getR (host := (some "PieceTexts")) h hc_2 hi_2 (by decide) wf_T_35 d_T_retag_14 (fun v2 h => ?_)
      refine x_iload_n 2 d_T_retag_17 rfl rfl ?_
      refine x_iload_n 3 d_T_retag_18 rfl rfl ?_
      refine x_iload 4 d_T_retag_19 rfl ?_
      refine x_iconst (v := 1) d_T_retag_21 (by decide) ?_
      refine x_isub d_T_retag_22 ?_
      refine x_callV' (M' := m_T_retag) (ax := [.inr (.inr v2), .inl p2, .inl p3, .inl (p4 - 1)]) (cv := cvR) (host := none) (st := []) h (fun q h => hfr p0 v2 p2 p3 (p4 - 1) S q h) hc_4 rfl d_T_retag_23 wm_T_95 wc_T_retag rfl (Nat.le_of_ble_eq_true rfl) (fun q3 h => ?_)
      show V _ _ _ _ _ _ _ (va_rf q3.1 :: []) _
      refine x_astore (lv' := [(5, .inr (.inr q3.1)), (0, .inr (.inr p0)), (1, .inr (.inr p1)), (2, .inl p2), (3, .inl p3), (4, .inl p4)]) d_T_retag_26 (by decide) rfl ?_
      refine x_aload_n 1 d_T_retag_28 rfl rfl ?_
      refine x_aload_n 2 d_T_retag_29 rfl rfl ?_
      refine x_getR (host := (some "PieceTexts")) h hc_2 hi_2 (by decide) wf_T_18 d_T_retag_30 (fun v4 h => ?_)
      refine x_iload_n 3 d_T_retag_33 rfl rfl ?_
      refine x_iload_n 4 d_T_retag_34 rfl rfl ?_
      refine x_iload 5 d_T_retag_35 rfl ?_
      refine x_iconst (v := 1) d_T_retag_37 (by decide) ?_
      refine x_isub d_T_retag_38 ?_
      refine x_callV' (M' := m_T_retag) (ax := [.inr (.inr v4), .inl p2, .inl p3, .inl (p4 - 1)]) (cv := cvR) (host := none) (st := []) h (fun q h => hfr p0 v4 p2 p3 (p4 - 1) q3.2 q h) hc_4 rfl d_T_retag_39 wm_T_95 wc_T_retag rfl (Nat.le_of_ble_eq_true rfl) (fun q5 h => ?_)
      show V _ _ _ _ _ _ _ (va_rf q5.1 :: []) _
      refine x_astore (lv' := [(6, .inr (.inr q5.1)), (5, .inr (.inr q3.1)), (0, .inr (.inr p0)), (1, .inr (.inr p1)), (2, .inl p2), (3, .inl p3), (4, .inl p4)]) d_T_retag_42 (by decide) rfl ?_
      refine x_aload_n 3 d_T_retag_44 rfl rfl ?_
      refine x_aload_n 3 d_T_retag_45 rfl rfl ?_
      refine x_getI (host := (some "PieceTexts")) h hc_2 hi_2 (by decide) wf_T_28 d_T_retag_46 (fun v6 h => ?_)
      refine x_iload_n 4 d_T_retag_49 rfl rfl ?_
      refine x_iload_n 5 d_T_retag_50 rfl rfl ?_
      refine x_callS' (M' := m_Y_tagged) (ax := [.inl v6, .inl p2, .inl p3]) (cv := cvI) (host := (some "PieceTexts")) (st := [va_rf p1]) h (fun q h l => s_Y_tagged d v6 p2 p3 q5.2 q h l D) rfl d_T_retag_51 wm_T_98 wc_Y_tagged rfl (Nat.le_of_ble_eq_true rfl) (fun q7 h => ?_)
      show V _ _ _ _ _ _ _ (.int q7.1 :: va_rf p1 :: []) _
      refine x_put (host := (some "PieceTexts")) h hc_2 hi_2 tyX_2 ht_2 hn_2 (by decide) rfl rfl rfl wf_T_28 d_T_retag_54 (fun S8 h => ?_)
      refine x_aload_n 2 d_T_retag_57 rfl rfl ?_
      refine x_aload_n 2 d_T_retag_58 rfl rfl ?_
      refine x_aload 1 d_T_retag_59 rfl ?_
      refine x_aload_n 3 d_T_retag_61 rfl rfl ?_
      refine x_callS' (M' := m_T_alone) (ax := [.inr (.inr p1)]) (cv := cvR) (host := none) (st := [va_rf q3.1, va_rf p0, va_rf p0]) h (fun q h l => s_T_alone d p1 S8 q h l D) rfl d_T_retag_62 wm_T_31 wc_T_alone rfl (Nat.le_of_ble_eq_true rfl) (fun q9 h => ?_)
      show V _ _ _ _ _ _ _ (va_rf q9.1 :: va_rf q3.1 :: va_rf p0 :: va_rf p0 :: []) _
      refine x_callV' (M' := m_T_meet) (ax := [.inr (.inr q3.1), .inr (.inr q9.1)]) (cv := cvR) (host := none) (st := [va_rf p0]) h (fun q h l => s_T_meet d p0 q3.1 q9.1 q9.2 q h l D) hc_4 rfl d_T_retag_65 wm_T_104 wc_T_meet rfl (Nat.le_of_ble_eq_true rfl) (fun q10 h => ?_)
      show V _ _ _ _ _ _ _ (va_rf q10.1 :: va_rf p0 :: []) _
      refine x_aload 0 d_T_retag_68 rfl ?_
      refine x_callV' (M' := m_T_meet) (ax := [.inr (.inr q10.1), .inr (.inr q5.1)]) (cv := cvR) (host := none) (st := []) h (fun q h l => s_T_meet d p0 q10.1 q5.1 q10.2 q h l D) hc_4 rfl d_T_retag_70 wm_T_104 wc_T_meet rfl (Nat.le_of_ble_eq_true rfl) (fun q11 h => ?_)
      show V _ _ _ _ _ _ _ (va_rf q11.1 :: []) _
      cases h
      exact x_aret rfl d_T_retag_73
    · refine x_ls [1] rfl ?_
      exact tb_T_retag_10 hfr p1 S _ h
theorem s_T_retag : ∀ (d : Nat) (p0 : Option Nat) (p1 : Option Nat) (p2 : Int32) (p3 : Int32) (p4 : Int32) (S : xS) (z : Option Nat × xS), f_T_retag d p0 p1 p2 p3 p4 S = some z → ∀ (l : Launch) (D : xD), xMet l m_T_retag D d [.inr (.inr p0), .inr (.inr p1), .inl p2, .inl p3, .inl p4] S (cvR z) := by
  intro d
  induction d with
  | zero =>
    intro p0 p1 p2 p3 p4 S z h
    cases h
  | succ d ih =>
    intro p0 p1 p2 p3 p4 S z h l D
    exact x_ofV rfl (by decide) (Nat.le_of_ble_eq_true rfl) (te_T_retag (fun p0 p1 p2 p3 p4 S q h l => ih p0 p1 p2 p3 p4 S q h l D) p0 p1 p2 p3 p4 S z h)
set_option maxRecDepth 100000 in
set_option maxHeartbeats 4000000 in
theorem tb_T_giveBackAll_9 {D : xD} {d : Nat} {S0 : xS} {fr : Option Nat → Option Nat → Int32 → xS → Option (Unit × xS)} (hfr : ∀ (p0 : Option Nat) (p1 : Option Nat) (p2 : Int32) (S : xS) (q : Unit × xS), fr p0 p1 p2 S = some q → ∀ l, xMet l m_T_giveBackAll D d [.inr (.inr p0), .inr (.inr p1), .inl p2] S (cvV q)) : ∀  (S : xS) (z : Unit × xS), b_T_giveBackAll_9 d fr  S = some z → V m_T_giveBackAll D (d + 1) S0 (cvV z) 9 [] [] S := by
  intro  S z h
  unfold b_T_giveBackAll_9 at h
  cases h
  exact x_vret rfl d_T_giveBackAll_9
set_option maxRecDepth 100000 in
set_option maxHeartbeats 4000000 in
theorem te_T_giveBackAll {D : xD} {d : Nat} {S0 : xS} {fr : Option Nat → Option Nat → Int32 → xS → Option (Unit × xS)} (hfr : ∀ (p0 : Option Nat) (p1 : Option Nat) (p2 : Int32) (S : xS) (q : Unit × xS), fr p0 p1 p2 S = some q → ∀ l, xMet l m_T_giveBackAll D d [.inr (.inr p0), .inr (.inr p1), .inl p2] S (cvV q)) : ∀ (p0 : Option Nat) (p1 : Option Nat) (p2 : Int32) (S : xS) (z : Unit × xS), e_T_giveBackAll d fr p0 p1 p2 S = some z → V m_T_giveBackAll D (d + 1) S0 (cvV z) 0 [(0, .inr (.inr p0)), (1, .inr (.inr p1)), (2, .inl p2)] [] S := by
  intro p0 p1 p2 S z h
  unfold e_T_giveBackAll at h
  refine x_aload_n 1 d_T_giveBackAll_0 rfl rfl ?_
  refine x_ifnull (tgt := 9) d_T_giveBackAll_1 (by decide) h (fun _ h => ?_) (fun _ _ h => ?_)
  · refine x_ls [] rfl ?_
    exact tb_T_giveBackAll_9 hfr S _ h
  · refine x_iload_n 2 d_T_giveBackAll_4 rfl rfl ?_
    refine x_iconst (v := 1) d_T_giveBackAll_5 (by decide) ?_
    refine x_icmp_ge (tgt := 10) d_T_giveBackAll_6 (by decide) h (fun h => ?_) (fun h => ?_)
    · refine x_aload_n 0 d_T_giveBackAll_10 rfl rfl ?_
      refine x_aload_n 1 d_T_giveBackAll_11 rfl rfl ?_
      refine x_getR (host := (some "PieceTexts")) h hc_2 hi_2 (by decide) wf_T_35 d_T_giveBackAll_12 (fun v2 h => ?_)
      refine x_iload_n 2 d_T_giveBackAll_15 rfl rfl ?_
      refine x_iconst (v := 1) d_T_giveBackAll_16 (by decide) ?_
      refine x_isub d_T_giveBackAll_17 ?_
      refine x_callV' (M' := m_T_giveBackAll) (ax := [.inr (.inr v2), .inl (p2 - 1)]) (cv := cvV) (host := none) (st := []) h (fun q h => hfr p0 v2 (p2 - 1) S q h) hc_4 rfl d_T_giveBackAll_18 wm_T_38 wc_T_giveBackAll rfl (Nat.le_of_ble_eq_true rfl) (fun q3 h => ?_)
      show V _ _ _ _ _ _ _ ([]) _
      refine x_aload_n 0 d_T_giveBackAll_21 rfl rfl ?_
      refine x_aload_n 1 d_T_giveBackAll_22 rfl rfl ?_
      refine x_getR (host := (some "PieceTexts")) h hc_2 hi_2 (by decide) wf_T_18 d_T_giveBackAll_23 (fun v4 h => ?_)
      refine x_iload_n 2 d_T_giveBackAll_26 rfl rfl ?_
      refine x_iconst (v := 1) d_T_giveBackAll_27 (by decide) ?_
      refine x_isub d_T_giveBackAll_28 ?_
      refine x_callV' (M' := m_T_giveBackAll) (ax := [.inr (.inr v4), .inl (p2 - 1)]) (cv := cvV) (host := none) (st := []) h (fun q h => hfr p0 v4 (p2 - 1) q3.2 q h) hc_4 rfl d_T_giveBackAll_29 wm_T_38 wc_T_giveBackAll rfl (Nat.le_of_ble_eq_true rfl) (fun q5 h => ?_)
      show V _ _ _ _ _ _ _ ([]) _
      refine x_aload_n 0 d_T_giveBackAll_32 rfl rfl ?_
      refine x_aload_n 1 d_T_giveBackAll_33 rfl rfl ?_
      refine x_callV' (M' := m_T_giveBack) (ax := [.inr (.inr p1)]) (cv := cvV) (host := none) (st := []) h (fun q h l => s_T_giveBack d p0 p1 q5.2 q h l D) hc_4 rfl d_T_giveBackAll_34 wm_T_42 wc_T_giveBack rfl (Nat.le_of_ble_eq_true rfl) (fun q6 h => ?_)
      show V _ _ _ _ _ _ _ ([]) _
      cases h
      exact x_vret rfl d_T_giveBackAll_37
    · refine x_ls [] rfl ?_
      exact tb_T_giveBackAll_9 hfr S _ h
theorem s_T_giveBackAll : ∀ (d : Nat) (p0 : Option Nat) (p1 : Option Nat) (p2 : Int32) (S : xS) (z : Unit × xS), f_T_giveBackAll d p0 p1 p2 S = some z → ∀ (l : Launch) (D : xD), xMet l m_T_giveBackAll D d [.inr (.inr p0), .inr (.inr p1), .inl p2] S (cvV z) := by
  intro d
  induction d with
  | zero =>
    intro p0 p1 p2 S z h
    cases h
  | succ d ih =>
    intro p0 p1 p2 S z h l D
    exact x_ofV rfl (by decide) (Nat.le_of_ble_eq_true rfl) (te_T_giveBackAll (fun p0 p1 p2 S q h l => ih p0 p1 p2 S q h l D) p0 p1 p2 S z h)
