set_option maxRecDepth 100000 in
set_option maxHeartbeats 4000000 in
theorem tb_R_charactersOf_12 {D : xD} {d : Nat} {S0 : xS} : ∀ (y0 : Int32) (S : xS) (z : Int32 × xS), b_R_charactersOf_12 d y0 S = some z → V m_R_charactersOf D (d + 1) S0 (cvI z) 12 [] [.int y0] S := by
  intro y0 S z h
  unfold b_R_charactersOf_12 at h
  cases h
  exact x_iret rfl d_R_charactersOf_12
set_option maxRecDepth 100000 in
set_option maxHeartbeats 4000000 in
theorem te_R_charactersOf {D : xD} {d : Nat} {S0 : xS} : ∀ (p0 : Option Nat) (S : xS) (z : Int32 × xS), e_R_charactersOf d p0 S = some z → V m_R_charactersOf D (d + 1) S0 (cvI z) 0 [(0, .inr (.inr p0))] [] S := by
  intro p0 S z h
  unfold e_R_charactersOf at h
  refine x_aload_n 0 d_R_charactersOf_0 rfl rfl ?_
  refine x_ifnonnull (tgt := 8) d_R_charactersOf_1 (by decide) h (fun _ _ h => ?_) (fun _ h => ?_)
  · refine x_aload_n 0 d_R_charactersOf_8 rfl rfl ?_
    refine x_getI (host := (some "PieceTexts")) h hc_2 hi_2 (by decide) wf_R_18 d_R_charactersOf_9 (fun v2 h => ?_)
    refine x_ls [] rfl ?_
    exact tb_R_charactersOf_12 v2 S _ h
  · refine x_iconst (v := 0) d_R_charactersOf_4 (by decide) ?_
    refine x_goto (tgt := 12) d_R_charactersOf_5 (by decide) ?_
    refine x_ls [] rfl ?_
    exact tb_R_charactersOf_12 0 S _ h
theorem s_R_charactersOf : ∀ (d : Nat) (p0 : Option Nat) (S : xS) (z : Int32 × xS), f_R_charactersOf d p0 S = some z → ∀ (l : Launch) (D : xD), xMet l m_R_charactersOf D d [.inr (.inr p0)] S (cvI z) := by
  intro d
  induction d with
  | zero =>
    intro p0 S z h
    cases h
  | succ d ih =>
    intro p0 S z h l D
    exact x_ofV rfl (by decide) (Nat.le_of_ble_eq_true rfl) (te_R_charactersOf  p0 S z h)
set_option maxRecDepth 100000 in
set_option maxHeartbeats 4000000 in
theorem tb_R_piecesOf_12 {D : xD} {d : Nat} {S0 : xS} : ∀ (y0 : Int32) (S : xS) (z : Int32 × xS), b_R_piecesOf_12 d y0 S = some z → V m_R_piecesOf D (d + 1) S0 (cvI z) 12 [] [.int y0] S := by
  intro y0 S z h
  unfold b_R_piecesOf_12 at h
  cases h
  exact x_iret rfl d_R_piecesOf_12
set_option maxRecDepth 100000 in
set_option maxHeartbeats 4000000 in
theorem te_R_piecesOf {D : xD} {d : Nat} {S0 : xS} : ∀ (p0 : Option Nat) (S : xS) (z : Int32 × xS), e_R_piecesOf d p0 S = some z → V m_R_piecesOf D (d + 1) S0 (cvI z) 0 [(0, .inr (.inr p0))] [] S := by
  intro p0 S z h
  unfold e_R_piecesOf at h
  refine x_aload_n 0 d_R_piecesOf_0 rfl rfl ?_
  refine x_ifnonnull (tgt := 8) d_R_piecesOf_1 (by decide) h (fun _ _ h => ?_) (fun _ h => ?_)
  · refine x_aload_n 0 d_R_piecesOf_8 rfl rfl ?_
    refine x_getI (host := (some "PieceTexts")) h hc_2 hi_2 (by decide) wf_R_15 d_R_piecesOf_9 (fun v2 h => ?_)
    refine x_ls [] rfl ?_
    exact tb_R_piecesOf_12 v2 S _ h
  · refine x_iconst (v := 0) d_R_piecesOf_4 (by decide) ?_
    refine x_goto (tgt := 12) d_R_piecesOf_5 (by decide) ?_
    refine x_ls [] rfl ?_
    exact tb_R_piecesOf_12 0 S _ h
theorem s_R_piecesOf : ∀ (d : Nat) (p0 : Option Nat) (S : xS) (z : Int32 × xS), f_R_piecesOf d p0 S = some z → ∀ (l : Launch) (D : xD), xMet l m_R_piecesOf D d [.inr (.inr p0)] S (cvI z) := by
  intro d
  induction d with
  | zero =>
    intro p0 S z h
    cases h
  | succ d ih =>
    intro p0 S z h l D
    exact x_ofV rfl (by decide) (Nat.le_of_ble_eq_true rfl) (te_R_piecesOf  p0 S z h)
set_option maxRecDepth 100000 in
set_option maxHeartbeats 4000000 in
theorem tb_R_orderAt_92 {D : xD} {d : Nat} {S0 : xS} {k7 : Int32 → Int32 → Option Nat → xS → Option (Int32 × xS)} (hk7 : ∀ (x2 : Int32) (x3 : Int32) (x4 : Option Nat)  (S : xS) (z : Int32 × xS), k7 x2 x3 x4 S = some z → V m_R_orderAt D (d + 1) S0 (cvI z) 7 [(2, .inl x2), (3, .inl x3), (4, .inr (.inr x4))] [] S) : ∀ (x2 : Int32) (x3 : Int32) (x4 : Option Nat) (S : xS) (z : Int32 × xS), b_R_orderAt_92 d k7 x2 x3 x4 S = some z → V m_R_orderAt D (d + 1) S0 (cvI z) 92 [(2, .inl x2), (3, .inl x3), (4, .inr (.inr x4))] [] S := by
  intro x2 x3 x4 S z h
  unfold b_R_orderAt_92 at h
  refine x_goto (tgt := 7) d_R_orderAt_92 (by decide) ?_
  refine x_ls [0, 1, 2] rfl ?_
  exact hk7 x2 x3 x4 S _ h
set_option maxRecDepth 100000 in
set_option maxHeartbeats 4000000 in
theorem tb_R_orderAt_7 {D : xD} {d : Nat} {S0 : xS} {k7 : Int32 → Int32 → Option Nat → xS → Option (Int32 × xS)} (hk7 : ∀ (x2 : Int32) (x3 : Int32) (x4 : Option Nat)  (S : xS) (z : Int32 × xS), k7 x2 x3 x4 S = some z → V m_R_orderAt D (d + 1) S0 (cvI z) 7 [(2, .inl x2), (3, .inl x3), (4, .inr (.inr x4))] [] S) : ∀ (x2 : Int32) (x3 : Int32) (x4 : Option Nat) (S : xS) (z : Int32 × xS), b_R_orderAt_7 d k7 x2 x3 x4 S = some z → V m_R_orderAt D (d + 1) S0 (cvI z) 7 [(2, .inl x2), (3, .inl x3), (4, .inr (.inr x4))] [] S := by
  intro x2 x3 x4 S z h
  unfold b_R_orderAt_7 at h
  refine x_aload 2 d_R_orderAt_7 rfl ?_
  refine x_ifnull (tgt := 95) d_R_orderAt_9 (by decide) h (fun _ h => ?_) (fun _ _ h => ?_)
  · refine x_iload_n 0 d_R_orderAt_95 rfl rfl ?_
    cases h
    exact x_iret rfl d_R_orderAt_96
  · refine x_aload 2 d_R_orderAt_12 rfl ?_
    refine x_getR (host := (some "PieceTexts")) h hc_2 hi_2 (by decide) wf_R_21 d_R_orderAt_14 (fun v2 h => ?_)
    refine x_callS' (M' := m_R_charactersOf) (ax := [.inr (.inr v2)]) (cv := cvI) (host := none) (st := []) h (fun q h l => s_R_charactersOf d v2 S q h l D) rfl d_R_orderAt_17 wm_R_25 wc_R_charactersOf rfl (Nat.le_of_ble_eq_true rfl) (fun q3 h => ?_)
    show V _ _ _ _ _ _ _ (.int q3.1 :: []) _
    refine x_istore (lv' := [(5, .inl q3.1), (2, .inl x2), (3, .inl x3), (4, .inr (.inr x4))]) d_R_orderAt_20 (by decide) rfl ?_
    refine x_iload_n 2 d_R_orderAt_22 rfl rfl ?_
    refine x_iload 0 d_R_orderAt_23 rfl ?_
    refine x_icmp_ge (tgt := 38) d_R_orderAt_25 (by decide) h (fun h => ?_) (fun h => ?_)
    · refine x_iload_n 2 d_R_orderAt_38 rfl rfl ?_
      refine x_iload 0 d_R_orderAt_39 rfl ?_
      refine x_aload 3 d_R_orderAt_41 rfl ?_
      refine x_getI (host := (some "PieceTexts")) h hc_2 hi_2 (by decide) wf_R_31 d_R_orderAt_43 (fun v4 h => ?_)
      refine x_iadd d_R_orderAt_46 ?_
      refine x_icmp_ge (tgt := 61) d_R_orderAt_47 (by decide) h (fun h => ?_) (fun h => ?_)
      · refine x_iload_n 1 d_R_orderAt_61 rfl rfl ?_
        refine x_aload 3 d_R_orderAt_62 rfl ?_
        refine x_getR (host := (some "PieceTexts")) h hc_2 hi_2 (by decide) wf_R_21 d_R_orderAt_64 (fun v5 h => ?_)
        refine x_callS' (M' := m_R_piecesOf) (ax := [.inr (.inr v5)]) (cv := cvI) (host := none) (st := [.int x2]) h (fun q h l => s_R_piecesOf d v5 q3.2 q h l D) rfl d_R_orderAt_67 wm_R_34 wc_R_piecesOf rfl (Nat.le_of_ble_eq_true rfl) (fun q6 h => ?_)
        show V _ _ _ _ _ _ _ (.int q6.1 :: .int x2 :: []) _
        refine x_iconst (v := 1) d_R_orderAt_70 (by decide) ?_
        refine x_iadd d_R_orderAt_71 ?_
        refine x_iadd d_R_orderAt_72 ?_
        refine x_istore_n (lv' := [(2, .inl (x2 + (q6.1 + 1))), (5, .inl q3.1), (3, .inl x3), (4, .inr (.inr x4))]) d_R_orderAt_73 rfl (by decide) rfl ?_
        refine x_iload_n 2 d_R_orderAt_74 rfl rfl ?_
        refine x_iload 1 d_R_orderAt_75 rfl ?_
        refine x_aload 3 d_R_orderAt_77 rfl ?_
        refine x_getI (host := (some "PieceTexts")) h hc_2 hi_2 (by decide) wf_R_31 d_R_orderAt_79 (fun v7 h => ?_)
        refine x_iadd d_R_orderAt_82 ?_
        refine x_isub d_R_orderAt_83 ?_
        refine x_istore_n (lv' := [(3, .inl (x3 - (q3.1 + v7))), (2, .inl (x2 + (q6.1 + 1))), (5, .inl q3.1), (4, .inr (.inr x4))]) d_R_orderAt_84 rfl (by decide) rfl ?_
        refine x_aload 3 d_R_orderAt_85 rfl ?_
        refine x_getR (host := (some "PieceTexts")) h hc_2 hi_2 (by decide) wf_R_37 d_R_orderAt_87 (fun v8 h => ?_)
        refine x_astore (lv' := [(4, .inr (.inr v8)), (3, .inl (x3 - (q3.1 + v7))), (2, .inl (x2 + (q6.1 + 1))), (5, .inl q3.1)]) d_R_orderAt_90 (by decide) rfl ?_
        refine x_ls [2, 1, 0] rfl ?_
        exact tb_R_orderAt_92 hk7 (x2 + (q6.1 + 1)) (x3 - (q3.1 + v7)) v8 q6.2 _ h
      · refine x_iload_n 1 d_R_orderAt_50 rfl rfl ?_
        refine x_aload 3 d_R_orderAt_51 rfl ?_
        refine x_getR (host := (some "PieceTexts")) h hc_2 hi_2 (by decide) wf_R_21 d_R_orderAt_53 (fun v9 h => ?_)
        refine x_callS' (M' := m_R_piecesOf) (ax := [.inr (.inr v9)]) (cv := cvI) (host := none) (st := [.int x2]) h (fun q h l => s_R_piecesOf d v9 q3.2 q h l D) rfl d_R_orderAt_56 wm_R_34 wc_R_piecesOf rfl (Nat.le_of_ble_eq_true rfl) (fun q10 h => ?_)
        show V _ _ _ _ _ _ _ (.int q10.1 :: .int x2 :: []) _
        refine x_iadd d_R_orderAt_59 ?_
        cases h
        exact x_iret rfl d_R_orderAt_60
    · refine x_aload 3 d_R_orderAt_28 rfl ?_
      refine x_getR (host := (some "PieceTexts")) h hc_2 hi_2 (by decide) wf_R_21 d_R_orderAt_30 (fun v11 h => ?_)
      refine x_astore (lv' := [(4, .inr (.inr v11)), (5, .inl q3.1), (2, .inl x2), (3, .inl x3)]) d_R_orderAt_33 (by decide) rfl ?_
      refine x_goto (tgt := 92) d_R_orderAt_35 (by decide) ?_
      refine x_ls [2, 3, 0] rfl ?_
      exact tb_R_orderAt_92 hk7 x2 x3 v11 q3.2 _ h
theorem tl_R_orderAt_7 {D : xD} {d : Nat} {S0 : xS} : ∀ (n : Nat) (x2 : Int32) (x3 : Int32) (x4 : Option Nat) (S : xS) (z : Int32 × xS), l_R_orderAt_7 d n x2 x3 x4 S = some z → V m_R_orderAt D (d + 1) S0 (cvI z) 7 [(2, .inl x2), (3, .inl x3), (4, .inr (.inr x4))] [] S := by
  intro n
  induction n with
  | zero =>
    intro x2 x3 x4 S z h
    cases h
  | succ n ih =>
    intro x2 x3 x4 S z h
    exact tb_R_orderAt_7  ih x2 x3 x4 S z h
set_option maxRecDepth 100000 in
set_option maxHeartbeats 4000000 in
theorem te_R_orderAt {D : xD} {d : Nat} {S0 : xS} : ∀ (p0 : Option Nat) (p1 : Int32) (S : xS) (z : Int32 × xS), e_R_orderAt d p0 p1 S = some z → V m_R_orderAt D (d + 1) S0 (cvI z) 0 [(0, .inr (.inr p0)), (1, .inl p1)] [] S := by
  intro p0 p1 S z h
  unfold e_R_orderAt at h
  refine x_iconst (v := 0) d_R_orderAt_0 (by decide) ?_
  refine x_istore_n (lv' := [(2, .inl 0), (0, .inr (.inr p0)), (1, .inl p1)]) d_R_orderAt_1 rfl (by decide) rfl ?_
  refine x_iload_n 2 d_R_orderAt_2 rfl rfl ?_
  refine x_istore_n (lv' := [(3, .inl p1), (2, .inl 0), (0, .inr (.inr p0)), (1, .inl p1)]) d_R_orderAt_3 rfl (by decide) rfl ?_
  refine x_aload_n 2 d_R_orderAt_4 rfl rfl ?_
  refine x_astore (lv' := [(4, .inr (.inr p0)), (3, .inl p1), (2, .inl 0), (0, .inr (.inr p0)), (1, .inl p1)]) d_R_orderAt_5 (by decide) rfl ?_
  refine x_ls [2, 1, 0] rfl ?_
  exact tl_R_orderAt_7 xN 0 p1 p0 S _ h
theorem s_R_orderAt : ∀ (d : Nat) (p0 : Option Nat) (p1 : Int32) (S : xS) (z : Int32 × xS), f_R_orderAt d p0 p1 S = some z → ∀ (l : Launch) (D : xD), xMet l m_R_orderAt D d [.inr (.inr p0), .inl p1] S (cvI z) := by
  intro d
  induction d with
  | zero =>
    intro p0 p1 S z h
    cases h
  | succ d ih =>
    intro p0 p1 S z h l D
    exact x_ofV rfl (by decide) (Nat.le_of_ble_eq_true rfl) (te_R_orderAt  p0 p1 S z h)
set_option maxRecDepth 100000 in
set_option maxHeartbeats 4000000 in
theorem tb_Y_before_18 {D : xD} {d : Nat} {S0 : xS} : ∀ (y0 : Int32) (S : xS) (z : Int32 × xS), b_Y_before_18 d y0 S = some z → V m_Y_before D (d + 1) S0 (cvI z) 18 [] [.int y0] S := by
  intro y0 S z h
  unfold b_Y_before_18 at h
  cases h
  exact x_iret rfl d_Y_before_18
set_option maxRecDepth 100000 in
set_option maxHeartbeats 4000000 in
theorem te_Y_before {D : xD} {d : Nat} {S0 : xS} : ∀ (p0 : Option Nat) (p1 : Int32) (S : xS) (z : Int32 × xS), e_Y_before d p0 p1 S = some z → V m_Y_before D (d + 1) S0 (cvI z) 0 [(0, .inr (.inr p0)), (1, .inl p1)] [] S := by
  intro p0 p1 S z h
  unfold e_Y_before at h
  refine x_iload_n 1 d_Y_before_0 rfl rfl ?_
  refine x_iconst (v := 1) d_Y_before_1 (by decide) ?_
  refine x_icmp_ge (tgt := 9) d_Y_before_2 (by decide) h (fun h => ?_) (fun h => ?_)
  · refine x_aload_n 0 d_Y_before_9 rfl rfl ?_
    refine x_iload_n 1 d_Y_before_10 rfl rfl ?_
    refine x_iconst (v := 1) d_Y_before_11 (by decide) ?_
    refine x_isub d_Y_before_12 ?_
    refine x_callS' (M' := m_R_orderAt) (ax := [.inr (.inr p0), .inl (p1 - 1)]) (cv := cvI) (host := (some "PieceTexts")) (st := []) h (fun q h l => s_R_orderAt d p0 (p1 - 1) S q h l D) rfl d_Y_before_13 wm_Y_46 wc_R_orderAt rfl (Nat.le_of_ble_eq_true rfl) (fun q1 h => ?_)
    show V _ _ _ _ _ _ _ (.int q1.1 :: []) _
    refine x_iconst (v := 1) d_Y_before_16 (by decide) ?_
    refine x_iadd d_Y_before_17 ?_
    refine x_ls [] rfl ?_
    exact tb_Y_before_18 (q1.1 + 1) q1.2 _ h
  · refine x_iconst (v := 0) d_Y_before_5 (by decide) ?_
    refine x_goto (tgt := 18) d_Y_before_6 (by decide) ?_
    refine x_ls [] rfl ?_
    exact tb_Y_before_18 0 S _ h
theorem s_Y_before : ∀ (d : Nat) (p0 : Option Nat) (p1 : Int32) (S : xS) (z : Int32 × xS), f_Y_before d p0 p1 S = some z → ∀ (l : Launch) (D : xD), xMet l m_Y_before D d [.inr (.inr p0), .inl p1] S (cvI z) := by
  intro d
  induction d with
  | zero =>
    intro p0 p1 S z h
    cases h
  | succ d ih =>
    intro p0 p1 S z h l D
    exact x_ofV rfl (by decide) (Nat.le_of_ble_eq_true rfl) (te_Y_before  p0 p1 S z h)
set_option maxRecDepth 100000 in
set_option maxHeartbeats 4000000 in
theorem te_Y_behind {D : xD} {d : Nat} {S0 : xS} : ∀ (p0 : Option Nat) (p1 : Int32) (S : xS) (z : Int32 × xS), e_Y_behind d p0 p1 S = some z → V m_Y_behind D (d + 1) S0 (cvI z) 0 [(0, .inr (.inr p0)), (1, .inl p1)] [] S := by
  intro p0 p1 S z h
  unfold e_Y_behind at h
  refine x_aload_n 0 d_Y_behind_0 rfl rfl ?_
  refine x_callS' (M' := m_R_piecesOf) (ax := [.inr (.inr p0)]) (cv := cvI) (host := (some "PieceTexts")) (st := []) h (fun q h l => s_R_piecesOf d p0 S q h l D) rfl d_Y_behind_1 wm_Y_35 wc_R_piecesOf rfl (Nat.le_of_ble_eq_true rfl) (fun q1 h => ?_)
  show V _ _ _ _ _ _ _ (.int q1.1 :: []) _
  refine x_aload_n 0 d_Y_behind_4 rfl rfl ?_
  refine x_iload_n 1 d_Y_behind_5 rfl rfl ?_
  refine x_callS' (M' := m_R_orderAt) (ax := [.inr (.inr p0), .inl p1]) (cv := cvI) (host := (some "PieceTexts")) (st := [.int q1.1]) h (fun q h l => s_R_orderAt d p0 p1 q1.2 q h l D) rfl d_Y_behind_6 wm_Y_46 wc_R_orderAt rfl (Nat.le_of_ble_eq_true rfl) (fun q2 h => ?_)
  show V _ _ _ _ _ _ _ (.int q2.1 :: .int q1.1 :: []) _
  refine x_isub d_Y_behind_9 ?_
  cases h
  exact x_iret rfl d_Y_behind_10
theorem s_Y_behind : ∀ (d : Nat) (p0 : Option Nat) (p1 : Int32) (S : xS) (z : Int32 × xS), f_Y_behind d p0 p1 S = some z → ∀ (l : Launch) (D : xD), xMet l m_Y_behind D d [.inr (.inr p0), .inl p1] S (cvI z) := by
  intro d
  induction d with
  | zero =>
    intro p0 p1 S z h
    cases h
  | succ d ih =>
    intro p0 p1 S z h l D
    exact x_ofV rfl (by decide) (Nat.le_of_ble_eq_true rfl) (te_Y_behind  p0 p1 S z h)
set_option maxRecDepth 100000 in
set_option maxHeartbeats 4000000 in
theorem tb_R_numbered_51 {D : xD} {d : Nat} {S0 : xS} {k4 : Int32 → Option Nat → xS → Option (Option Nat × xS)} (hk4 : ∀ (x2 : Int32) (x3 : Option Nat)  (S : xS) (z : Option Nat × xS), k4 x2 x3 S = some z → V m_R_numbered D (d + 1) S0 (cvR z) 4 [(2, .inl x2), (3, .inr (.inr x3))] [] S) : ∀ (x2 : Int32) (x3 : Option Nat) (S : xS) (z : Option Nat × xS), b_R_numbered_51 d k4 x2 x3 S = some z → V m_R_numbered D (d + 1) S0 (cvR z) 51 [(2, .inl x2), (3, .inr (.inr x3))] [] S := by
  intro x2 x3 S z h
  unfold b_R_numbered_51 at h
  refine x_goto (tgt := 4) d_R_numbered_51 (by decide) ?_
  refine x_ls [0, 1] rfl ?_
  exact hk4 x2 x3 S _ h
set_option maxRecDepth 100000 in
set_option maxHeartbeats 4000000 in
theorem tb_R_numbered_4 {D : xD} {d : Nat} {S0 : xS} {k4 : Int32 → Option Nat → xS → Option (Option Nat × xS)} (hk4 : ∀ (x2 : Int32) (x3 : Option Nat)  (S : xS) (z : Option Nat × xS), k4 x2 x3 S = some z → V m_R_numbered D (d + 1) S0 (cvR z) 4 [(2, .inl x2), (3, .inr (.inr x3))] [] S) : ∀ (x2 : Int32) (x3 : Option Nat) (S : xS) (z : Option Nat × xS), b_R_numbered_4 d k4 x2 x3 S = some z → V m_R_numbered D (d + 1) S0 (cvR z) 4 [(2, .inl x2), (3, .inr (.inr x3))] [] S := by
  intro x2 x3 S z h
  unfold b_R_numbered_4 at h
  refine x_aload_n 1 d_R_numbered_4 rfl rfl ?_
  refine x_ifnull (tgt := 54) d_R_numbered_5 (by decide) h (fun _ h => ?_) (fun _ _ h => ?_)
  · refine x_null d_R_numbered_54 ?_
    cases h
    exact x_aret rfl d_R_numbered_55
  · refine x_aload_n 1 d_R_numbered_8 rfl rfl ?_
    refine x_getR (host := (some "PieceTexts")) h hc_2 hi_2 (by decide) wf_R_21 d_R_numbered_9 (fun v2 h => ?_)
    refine x_callS' (M' := m_R_piecesOf) (ax := [.inr (.inr v2)]) (cv := cvI) (host := none) (st := []) h (fun q h l => s_R_piecesOf d v2 S q h l D) rfl d_R_numbered_12 wm_R_34 wc_R_piecesOf rfl (Nat.le_of_ble_eq_true rfl) (fun q3 h => ?_)
    show V _ _ _ _ _ _ _ (.int q3.1 :: []) _
    refine x_istore (lv' := [(4, .inl q3.1), (2, .inl x2), (3, .inr (.inr x3))]) d_R_numbered_15 (by decide) rfl ?_
    refine x_iload_n 1 d_R_numbered_17 rfl rfl ?_
    refine x_iload 0 d_R_numbered_18 rfl ?_
    refine x_icmp_ne (tgt := 25) d_R_numbered_20 (by decide) h (fun h => ?_) (fun h => ?_)
    · refine x_iload_n 1 d_R_numbered_25 rfl rfl ?_
      refine x_iload 0 d_R_numbered_26 rfl ?_
      refine x_icmp_ge (tgt := 39) d_R_numbered_28 (by decide) h (fun h => ?_) (fun h => ?_)
      · refine x_iload_n 1 d_R_numbered_39 rfl rfl ?_
        refine x_iload 0 d_R_numbered_40 rfl ?_
        refine x_iconst (v := 1) d_R_numbered_42 (by decide) ?_
        refine x_iadd d_R_numbered_43 ?_
        refine x_isub d_R_numbered_44 ?_
        refine x_istore_n (lv' := [(2, .inl (x2 - (q3.1 + 1))), (4, .inl q3.1), (3, .inr (.inr x3))]) d_R_numbered_45 rfl (by decide) rfl ?_
        refine x_aload_n 2 d_R_numbered_46 rfl rfl ?_
        refine x_getR (host := (some "PieceTexts")) h hc_2 hi_2 (by decide) wf_R_37 d_R_numbered_47 (fun v4 h => ?_)
        refine x_astore_n (lv' := [(3, .inr (.inr v4)), (2, .inl (x2 - (q3.1 + 1))), (4, .inl q3.1)]) d_R_numbered_50 rfl (by decide) rfl ?_
        refine x_ls [1, 0] rfl ?_
        exact tb_R_numbered_51 hk4 (x2 - (q3.1 + 1)) v4 q3.2 _ h
      · refine x_aload_n 2 d_R_numbered_31 rfl rfl ?_
        refine x_getR (host := (some "PieceTexts")) h hc_2 hi_2 (by decide) wf_R_21 d_R_numbered_32 (fun v5 h => ?_)
        refine x_astore_n (lv' := [(3, .inr (.inr v5)), (4, .inl q3.1), (2, .inl x2)]) d_R_numbered_35 rfl (by decide) rfl ?_
        refine x_goto (tgt := 51) d_R_numbered_36 (by decide) ?_
        refine x_ls [2, 0] rfl ?_
        exact tb_R_numbered_51 hk4 x2 v5 q3.2 _ h
    · refine x_aload_n 2 d_R_numbered_23 rfl rfl ?_
      cases h
      exact x_aret rfl d_R_numbered_24
theorem tl_R_numbered_4 {D : xD} {d : Nat} {S0 : xS} : ∀ (n : Nat) (x2 : Int32) (x3 : Option Nat) (S : xS) (z : Option Nat × xS), l_R_numbered_4 d n x2 x3 S = some z → V m_R_numbered D (d + 1) S0 (cvR z) 4 [(2, .inl x2), (3, .inr (.inr x3))] [] S := by
  intro n
  induction n with
  | zero =>
    intro x2 x3 S z h
    cases h
  | succ n ih =>
    intro x2 x3 S z h
    exact tb_R_numbered_4  ih x2 x3 S z h
set_option maxRecDepth 100000 in
set_option maxHeartbeats 4000000 in
theorem te_R_numbered {D : xD} {d : Nat} {S0 : xS} : ∀ (p0 : Option Nat) (p1 : Int32) (S : xS) (z : Option Nat × xS), e_R_numbered d p0 p1 S = some z → V m_R_numbered D (d + 1) S0 (cvR z) 0 [(0, .inr (.inr p0)), (1, .inl p1)] [] S := by
  intro p0 p1 S z h
  unfold e_R_numbered at h
  refine x_iload_n 1 d_R_numbered_0 rfl rfl ?_
  refine x_istore_n (lv' := [(2, .inl p1), (0, .inr (.inr p0)), (1, .inl p1)]) d_R_numbered_1 rfl (by decide) rfl ?_
  refine x_aload_n 1 d_R_numbered_2 rfl rfl ?_
  refine x_astore_n (lv' := [(3, .inr (.inr p0)), (2, .inl p1), (0, .inr (.inr p0)), (1, .inl p1)]) d_R_numbered_3 rfl (by decide) rfl ?_
  refine x_ls [1, 0] rfl ?_
  exact tl_R_numbered_4 xN p1 p0 S _ h
theorem s_R_numbered : ∀ (d : Nat) (p0 : Option Nat) (p1 : Int32) (S : xS) (z : Option Nat × xS), f_R_numbered d p0 p1 S = some z → ∀ (l : Launch) (D : xD), xMet l m_R_numbered D d [.inr (.inr p0), .inl p1] S (cvR z) := by
  intro d
  induction d with
  | zero =>
    intro p0 p1 S z h
    cases h
  | succ d ih =>
    intro p0 p1 S z h l D
    exact x_ofV rfl (by decide) (Nat.le_of_ble_eq_true rfl) (te_R_numbered  p0 p1 S z h)
set_option maxRecDepth 100000 in
set_option maxHeartbeats 4000000 in
theorem tb_R_startOf_69 {D : xD} {d : Nat} {S0 : xS} {k7 : Int32 → Int32 → Option Nat → xS → Option (Int32 × xS)} (hk7 : ∀ (x2 : Int32) (x3 : Int32) (x4 : Option Nat)  (S : xS) (z : Int32 × xS), k7 x2 x3 x4 S = some z → V m_R_startOf D (d + 1) S0 (cvI z) 7 [(2, .inl x2), (3, .inl x3), (4, .inr (.inr x4))] [] S) : ∀ (x2 : Int32) (x3 : Int32) (x4 : Option Nat) (S : xS) (z : Int32 × xS), b_R_startOf_69 d k7 x2 x3 x4 S = some z → V m_R_startOf D (d + 1) S0 (cvI z) 69 [(2, .inl x2), (3, .inl x3), (4, .inr (.inr x4))] [] S := by
  intro x2 x3 x4 S z h
  unfold b_R_startOf_69 at h
  refine x_goto (tgt := 7) d_R_startOf_69 (by decide) ?_
  refine x_ls [0, 1, 2] rfl ?_
  exact hk7 x2 x3 x4 S _ h
set_option maxRecDepth 100000 in
set_option maxHeartbeats 4000000 in
theorem tb_R_startOf_7 {D : xD} {d : Nat} {S0 : xS} {k7 : Int32 → Int32 → Option Nat → xS → Option (Int32 × xS)} (hk7 : ∀ (x2 : Int32) (x3 : Int32) (x4 : Option Nat)  (S : xS) (z : Int32 × xS), k7 x2 x3 x4 S = some z → V m_R_startOf D (d + 1) S0 (cvI z) 7 [(2, .inl x2), (3, .inl x3), (4, .inr (.inr x4))] [] S) : ∀ (x2 : Int32) (x3 : Int32) (x4 : Option Nat) (S : xS) (z : Int32 × xS), b_R_startOf_7 d k7 x2 x3 x4 S = some z → V m_R_startOf D (d + 1) S0 (cvI z) 7 [(2, .inl x2), (3, .inl x3), (4, .inr (.inr x4))] [] S := by
  intro x2 x3 x4 S z h
  unfold b_R_startOf_7 at h
  refine x_aload 2 d_R_startOf_7 rfl ?_
  refine x_ifnull (tgt := 72) d_R_startOf_9 (by decide) h (fun _ h => ?_) (fun _ _ h => ?_)
  · refine x_iload_n 0 d_R_startOf_72 rfl rfl ?_
    cases h
    exact x_iret rfl d_R_startOf_73
  · refine x_aload 2 d_R_startOf_12 rfl ?_
    refine x_getR (host := (some "PieceTexts")) h hc_2 hi_2 (by decide) wf_R_21 d_R_startOf_14 (fun v2 h => ?_)
    refine x_callS' (M' := m_R_piecesOf) (ax := [.inr (.inr v2)]) (cv := cvI) (host := none) (st := []) h (fun q h l => s_R_piecesOf d v2 S q h l D) rfl d_R_startOf_17 wm_R_34 wc_R_piecesOf rfl (Nat.le_of_ble_eq_true rfl) (fun q3 h => ?_)
    show V _ _ _ _ _ _ _ (.int q3.1 :: []) _
    refine x_istore (lv' := [(5, .inl q3.1), (2, .inl x2), (3, .inl x3), (4, .inr (.inr x4))]) d_R_startOf_20 (by decide) rfl ?_
    refine x_iload_n 2 d_R_startOf_22 rfl rfl ?_
    refine x_iload 0 d_R_startOf_23 rfl ?_
    refine x_icmp_gt (tgt := 38) d_R_startOf_25 (by decide) h (fun h => ?_) (fun h => ?_)
    · refine x_iload_n 1 d_R_startOf_38 rfl rfl ?_
      refine x_aload 3 d_R_startOf_39 rfl ?_
      refine x_getR (host := (some "PieceTexts")) h hc_2 hi_2 (by decide) wf_R_21 d_R_startOf_41 (fun v4 h => ?_)
      refine x_callS' (M' := m_R_charactersOf) (ax := [.inr (.inr v4)]) (cv := cvI) (host := none) (st := [.int x2]) h (fun q h l => s_R_charactersOf d v4 q3.2 q h l D) rfl d_R_startOf_44 wm_R_25 wc_R_charactersOf rfl (Nat.le_of_ble_eq_true rfl) (fun q5 h => ?_)
      show V _ _ _ _ _ _ _ (.int q5.1 :: .int x2 :: []) _
      refine x_aload 3 d_R_startOf_47 rfl ?_
      refine x_getI (host := (some "PieceTexts")) h hc_2 hi_2 (by decide) wf_R_31 d_R_startOf_49 (fun v6 h => ?_)
      refine x_iadd d_R_startOf_52 ?_
      refine x_iadd d_R_startOf_53 ?_
      refine x_istore_n (lv' := [(2, .inl (x2 + (q5.1 + v6))), (5, .inl q3.1), (3, .inl x3), (4, .inr (.inr x4))]) d_R_startOf_54 rfl (by decide) rfl ?_
      refine x_iload_n 2 d_R_startOf_55 rfl rfl ?_
      refine x_iload 1 d_R_startOf_56 rfl ?_
      refine x_iconst (v := 1) d_R_startOf_58 (by decide) ?_
      refine x_iadd d_R_startOf_59 ?_
      refine x_isub d_R_startOf_60 ?_
      refine x_istore_n (lv' := [(3, .inl (x3 - (q3.1 + 1))), (2, .inl (x2 + (q5.1 + v6))), (5, .inl q3.1), (4, .inr (.inr x4))]) d_R_startOf_61 rfl (by decide) rfl ?_
      refine x_aload 3 d_R_startOf_62 rfl ?_
      refine x_getR (host := (some "PieceTexts")) h hc_2 hi_2 (by decide) wf_R_37 d_R_startOf_64 (fun v7 h => ?_)
      refine x_astore (lv' := [(4, .inr (.inr v7)), (3, .inl (x3 - (q3.1 + 1))), (2, .inl (x2 + (q5.1 + v6))), (5, .inl q3.1)]) d_R_startOf_67 (by decide) rfl ?_
      refine x_ls [2, 1, 0] rfl ?_
      exact tb_R_startOf_69 hk7 (x2 + (q5.1 + v6)) (x3 - (q3.1 + 1)) v7 q5.2 _ h
    · refine x_aload 3 d_R_startOf_28 rfl ?_
      refine x_getR (host := (some "PieceTexts")) h hc_2 hi_2 (by decide) wf_R_21 d_R_startOf_30 (fun v8 h => ?_)
      refine x_astore (lv' := [(4, .inr (.inr v8)), (5, .inl q3.1), (2, .inl x2), (3, .inl x3)]) d_R_startOf_33 (by decide) rfl ?_
      refine x_goto (tgt := 69) d_R_startOf_35 (by decide) ?_
      refine x_ls [2, 3, 0] rfl ?_
      exact tb_R_startOf_69 hk7 x2 x3 v8 q3.2 _ h
theorem tl_R_startOf_7 {D : xD} {d : Nat} {S0 : xS} : ∀ (n : Nat) (x2 : Int32) (x3 : Int32) (x4 : Option Nat) (S : xS) (z : Int32 × xS), l_R_startOf_7 d n x2 x3 x4 S = some z → V m_R_startOf D (d + 1) S0 (cvI z) 7 [(2, .inl x2), (3, .inl x3), (4, .inr (.inr x4))] [] S := by
  intro n
  induction n with
  | zero =>
    intro x2 x3 x4 S z h
    cases h
  | succ n ih =>
    intro x2 x3 x4 S z h
    exact tb_R_startOf_7  ih x2 x3 x4 S z h
set_option maxRecDepth 100000 in
set_option maxHeartbeats 4000000 in
theorem te_R_startOf {D : xD} {d : Nat} {S0 : xS} : ∀ (p0 : Option Nat) (p1 : Int32) (S : xS) (z : Int32 × xS), e_R_startOf d p0 p1 S = some z → V m_R_startOf D (d + 1) S0 (cvI z) 0 [(0, .inr (.inr p0)), (1, .inl p1)] [] S := by
  intro p0 p1 S z h
  unfold e_R_startOf at h
  refine x_iconst (v := 0) d_R_startOf_0 (by decide) ?_
  refine x_istore_n (lv' := [(2, .inl 0), (0, .inr (.inr p0)), (1, .inl p1)]) d_R_startOf_1 rfl (by decide) rfl ?_
  refine x_iload_n 2 d_R_startOf_2 rfl rfl ?_
  refine x_istore_n (lv' := [(3, .inl p1), (2, .inl 0), (0, .inr (.inr p0)), (1, .inl p1)]) d_R_startOf_3 rfl (by decide) rfl ?_
  refine x_aload_n 2 d_R_startOf_4 rfl rfl ?_
  refine x_astore (lv' := [(4, .inr (.inr p0)), (3, .inl p1), (2, .inl 0), (0, .inr (.inr p0)), (1, .inl p1)]) d_R_startOf_5 (by decide) rfl ?_
  refine x_ls [2, 1, 0] rfl ?_
  exact tl_R_startOf_7 xN 0 p1 p0 S _ h
theorem s_R_startOf : ∀ (d : Nat) (p0 : Option Nat) (p1 : Int32) (S : xS) (z : Int32 × xS), f_R_startOf d p0 p1 S = some z → ∀ (l : Launch) (D : xD), xMet l m_R_startOf D d [.inr (.inr p0), .inl p1] S (cvI z) := by
  intro d
  induction d with
  | zero =>
    intro p0 p1 S z h
    cases h
  | succ d ih =>
    intro p0 p1 S z h l D
    exact x_ofV rfl (by decide) (Nat.le_of_ble_eq_true rfl) (te_R_startOf  p0 p1 S z h)
set_option maxRecDepth 100000 in
set_option maxHeartbeats 4000000 in
theorem tb_R_sourceAt_32 {D : xD} {d : Nat} {S0 : xS} : ∀ (y0 : Int32) (S : xS) (z : Int32 × xS), b_R_sourceAt_32 d y0 S = some z → V m_R_sourceAt D (d + 1) S0 (cvI z) 32 [] [.int y0] S := by
  intro y0 S z h
  unfold b_R_sourceAt_32 at h
  cases h
  exact x_iret rfl d_R_sourceAt_32
set_option maxRecDepth 100000 in
set_option maxHeartbeats 4000000 in
theorem te_R_sourceAt {D : xD} {d : Nat} {S0 : xS} : ∀ (p0 : Option Nat) (p1 : Int32) (S : xS) (z : Int32 × xS), e_R_sourceAt d p0 p1 S = some z → V m_R_sourceAt D (d + 1) S0 (cvI z) 0 [(0, .inr (.inr p0)), (1, .inl p1)] [] S := by
  intro p0 p1 S z h
  unfold e_R_sourceAt at h
  refine x_aload_n 0 d_R_sourceAt_0 rfl rfl ?_
  refine x_iload_n 1 d_R_sourceAt_1 rfl rfl ?_
  refine x_callS' (M' := m_R_orderAt) (ax := [.inr (.inr p0), .inl p1]) (cv := cvI) (host := none) (st := []) h (fun q h l => s_R_orderAt d p0 p1 S q h l D) rfl d_R_sourceAt_2 wm_R_40 wc_R_orderAt rfl (Nat.le_of_ble_eq_true rfl) (fun q1 h => ?_)
  show V _ _ _ _ _ _ _ (.int q1.1 :: []) _
  refine x_istore_n (lv' := [(2, .inl q1.1), (0, .inr (.inr p0)), (1, .inl p1)]) d_R_sourceAt_5 rfl (by decide) rfl ?_
  refine x_aload_n 1 d_R_sourceAt_6 rfl rfl ?_
  refine x_iload_n 0 d_R_sourceAt_7 rfl rfl ?_
  refine x_callS' (M' := m_R_numbered) (ax := [.inr (.inr p0), .inl q1.1]) (cv := cvR) (host := none) (st := []) h (fun q h l => s_R_numbered d p0 q1.1 q1.2 q h l D) rfl d_R_sourceAt_8 wm_R_44 wc_R_numbered rfl (Nat.le_of_ble_eq_true rfl) (fun q2 h => ?_)
  show V _ _ _ _ _ _ _ (va_rf q2.1 :: []) _
  refine x_astore_n (lv' := [(3, .inr (.inr q2.1)), (2, .inl q1.1), (0, .inr (.inr p0)), (1, .inl p1)]) d_R_sourceAt_11 rfl (by decide) rfl ?_
  refine x_aload_n 0 d_R_sourceAt_12 rfl rfl ?_
  refine x_ifnonnull (tgt := 20) d_R_sourceAt_13 (by decide) h (fun _ _ h => ?_) (fun _ h => ?_)
  · refine x_aload_n 0 d_R_sourceAt_20 rfl rfl ?_
    refine x_getI (host := (some "PieceTexts")) h hc_2 hi_2 (by decide) wf_R_48 d_R_sourceAt_21 (fun v4 h => ?_)
    refine x_iload_n 3 d_R_sourceAt_24 rfl rfl ?_
    refine x_iadd d_R_sourceAt_25 ?_
    refine x_aload_n 2 d_R_sourceAt_26 rfl rfl ?_
    refine x_iload_n 1 d_R_sourceAt_27 rfl rfl ?_
    refine x_callS' (M' := m_R_startOf) (ax := [.inr (.inr p0), .inl q1.1]) (cv := cvI) (host := none) (st := [.int (v4 + p1)]) h (fun q h l => s_R_startOf d p0 q1.1 q2.2 q h l D) rfl d_R_sourceAt_28 wm_R_51 wc_R_startOf rfl (Nat.le_of_ble_eq_true rfl) (fun q5 h => ?_)
    show V _ _ _ _ _ _ _ (.int q5.1 :: .int (v4 + p1) :: []) _
    refine x_isub d_R_sourceAt_31 ?_
    refine x_ls [] rfl ?_
    exact tb_R_sourceAt_32 ((v4 + p1) - q5.1) q5.2 _ h
  · refine x_iconst (v := (-1)) d_R_sourceAt_16 (by decide) ?_
    refine x_goto (tgt := 32) d_R_sourceAt_17 (by decide) ?_
    refine x_ls [] rfl ?_
    exact tb_R_sourceAt_32 ((-1)) q2.2 _ h
theorem s_R_sourceAt : ∀ (d : Nat) (p0 : Option Nat) (p1 : Int32) (S : xS) (z : Int32 × xS), f_R_sourceAt d p0 p1 S = some z → ∀ (l : Launch) (D : xD), xMet l m_R_sourceAt D d [.inr (.inr p0), .inl p1] S (cvI z) := by
  intro d
  induction d with
  | zero =>
    intro p0 p1 S z h
    cases h
  | succ d ih =>
    intro p0 p1 S z h l D
    exact x_ofV rfl (by decide) (Nat.le_of_ble_eq_true rfl) (te_R_sourceAt  p0 p1 S z h)
set_option maxRecDepth 100000 in
set_option maxHeartbeats 4000000 in
theorem tb_R_tagAt_22 {D : xD} {d : Nat} {S0 : xS} : ∀ (y0 : Int32) (S : xS) (z : Int32 × xS), b_R_tagAt_22 d y0 S = some z → V m_R_tagAt D (d + 1) S0 (cvI z) 22 [] [.int y0] S := by
  intro y0 S z h
  unfold b_R_tagAt_22 at h
  cases h
  exact x_iret rfl d_R_tagAt_22
set_option maxRecDepth 100000 in
set_option maxHeartbeats 4000000 in
theorem te_R_tagAt {D : xD} {d : Nat} {S0 : xS} : ∀ (p0 : Option Nat) (p1 : Int32) (S : xS) (z : Int32 × xS), e_R_tagAt d p0 p1 S = some z → V m_R_tagAt D (d + 1) S0 (cvI z) 0 [(0, .inr (.inr p0)), (1, .inl p1)] [] S := by
  intro p0 p1 S z h
  unfold e_R_tagAt at h
  refine x_aload_n 0 d_R_tagAt_0 rfl rfl ?_
  refine x_aload_n 0 d_R_tagAt_1 rfl rfl ?_
  refine x_iload_n 1 d_R_tagAt_2 rfl rfl ?_
  refine x_callS' (M' := m_R_orderAt) (ax := [.inr (.inr p0), .inl p1]) (cv := cvI) (host := none) (st := [va_rf p0]) h (fun q h l => s_R_orderAt d p0 p1 S q h l D) rfl d_R_tagAt_3 wm_R_40 wc_R_orderAt rfl (Nat.le_of_ble_eq_true rfl) (fun q1 h => ?_)
  show V _ _ _ _ _ _ _ (.int q1.1 :: va_rf p0 :: []) _
  refine x_callS' (M' := m_R_numbered) (ax := [.inr (.inr p0), .inl q1.1]) (cv := cvR) (host := none) (st := []) h (fun q h l => s_R_numbered d p0 q1.1 q1.2 q h l D) rfl d_R_tagAt_6 wm_R_44 wc_R_numbered rfl (Nat.le_of_ble_eq_true rfl) (fun q2 h => ?_)
  show V _ _ _ _ _ _ _ (va_rf q2.1 :: []) _
  refine x_astore_n (lv' := [(2, .inr (.inr q2.1)), (0, .inr (.inr p0)), (1, .inl p1)]) d_R_tagAt_9 rfl (by decide) rfl ?_
  refine x_aload_n 0 d_R_tagAt_10 rfl rfl ?_
  refine x_ifnonnull (tgt := 18) d_R_tagAt_11 (by decide) h (fun _ _ h => ?_) (fun _ h => ?_)
  · refine x_aload_n 0 d_R_tagAt_18 rfl rfl ?_
    refine x_getI (host := (some "PieceTexts")) h hc_2 hi_2 (by decide) wf_R_54 d_R_tagAt_19 (fun v4 h => ?_)
    refine x_ls [] rfl ?_
    exact tb_R_tagAt_22 v4 q2.2 _ h
  · refine x_iconst (v := 0) d_R_tagAt_14 (by decide) ?_
    refine x_goto (tgt := 22) d_R_tagAt_15 (by decide) ?_
    refine x_ls [] rfl ?_
    exact tb_R_tagAt_22 0 q2.2 _ h
theorem s_R_tagAt : ∀ (d : Nat) (p0 : Option Nat) (p1 : Int32) (S : xS) (z : Int32 × xS), f_R_tagAt d p0 p1 S = some z → ∀ (l : Launch) (D : xD), xMet l m_R_tagAt D d [.inr (.inr p0), .inl p1] S (cvI z) := by
  intro d
  induction d with
  | zero =>
    intro p0 p1 S z h
    cases h
  | succ d ih =>
    intro p0 p1 S z h l D
    exact x_ofV rfl (by decide) (Nat.le_of_ble_eq_true rfl) (te_R_tagAt  p0 p1 S z h)
set_option maxRecDepth 100000 in
set_option maxHeartbeats 4000000 in
theorem tb_Y_meldsLeft_36 {D : xD} {d : Nat} {S0 : xS} : ∀ (y0 : Int32) (S : xS) (z : Int32 × xS), b_Y_meldsLeft_36 d y0 S = some z → V m_Y_meldsLeft D (d + 1) S0 (cvI z) 36 [] [.int y0] S := by
  intro y0 S z h
  unfold b_Y_meldsLeft_36 at h
  cases h
  exact x_iret rfl d_Y_meldsLeft_36
set_option maxRecDepth 100000 in
set_option maxHeartbeats 4000000 in
theorem tb_Y_meldsLeft_35 {D : xD} {d : Nat} {S0 : xS} : ∀  (S : xS) (z : Int32 × xS), b_Y_meldsLeft_35 d  S = some z → V m_Y_meldsLeft D (d + 1) S0 (cvI z) 35 [] [] S := by
  intro  S z h
  unfold b_Y_meldsLeft_35 at h
  refine x_iconst (v := 0) d_Y_meldsLeft_35 (by decide) ?_
  refine x_ls [] rfl ?_
  exact tb_Y_meldsLeft_36 0 S _ h
set_option maxRecDepth 100000 in
set_option maxHeartbeats 4000000 in
theorem te_Y_meldsLeft {D : xD} {d : Nat} {S0 : xS} : ∀ (p0 : Option Nat) (p1 : Int32) (p2 : Int32) (p3 : Int32) (S : xS) (z : Int32 × xS), e_Y_meldsLeft d p0 p1 p2 p3 S = some z → V m_Y_meldsLeft D (d + 1) S0 (cvI z) 0 [(0, .inr (.inr p0)), (1, .inl p1), (2, .inl p2), (3, .inl p3)] [] S := by
  intro p0 p1 p2 p3 S z h
  unfold e_Y_meldsLeft at h
  refine x_iload_n 1 d_Y_meldsLeft_0 rfl rfl ?_
  refine x_iconst (v := 1) d_Y_meldsLeft_1 (by decide) ?_
  refine x_icmp_ge (tgt := 7) d_Y_meldsLeft_2 (by decide) h (fun h => ?_) (fun h => ?_)
  · refine x_aload_n 0 d_Y_meldsLeft_7 rfl rfl ?_
    refine x_iload_n 1 d_Y_meldsLeft_8 rfl rfl ?_
    refine x_iconst (v := 1) d_Y_meldsLeft_9 (by decide) ?_
    refine x_isub d_Y_meldsLeft_10 ?_
    refine x_callS' (M' := m_R_sourceAt) (ax := [.inr (.inr p0), .inl (p1 - 1)]) (cv := cvI) (host := (some "PieceTexts")) (st := []) h (fun q h l => s_R_sourceAt d p0 (p1 - 1) S q h l D) rfl d_Y_meldsLeft_11 wm_Y_29 wc_R_sourceAt rfl (Nat.le_of_ble_eq_true rfl) (fun q1 h => ?_)
    show V _ _ _ _ _ _ _ (.int q1.1 :: []) _
    refine x_iconst (v := 1) d_Y_meldsLeft_14 (by decide) ?_
    refine x_iadd d_Y_meldsLeft_15 ?_
    refine x_iload_n 2 d_Y_meldsLeft_16 rfl rfl ?_
    refine x_icmp_ne (tgt := 35) d_Y_meldsLeft_17 (by decide) h (fun h => ?_) (fun h => ?_)
    · refine x_ls [] rfl ?_
      exact tb_Y_meldsLeft_35 q1.2 _ h
    · refine x_aload_n 0 d_Y_meldsLeft_20 rfl rfl ?_
      refine x_iload_n 1 d_Y_meldsLeft_21 rfl rfl ?_
      refine x_iconst (v := 1) d_Y_meldsLeft_22 (by decide) ?_
      refine x_isub d_Y_meldsLeft_23 ?_
      refine x_callS' (M' := m_R_tagAt) (ax := [.inr (.inr p0), .inl (p1 - 1)]) (cv := cvI) (host := (some "PieceTexts")) (st := []) h (fun q h l => s_R_tagAt d p0 (p1 - 1) q1.2 q h l D) rfl d_Y_meldsLeft_24 wm_Y_32 wc_R_tagAt rfl (Nat.le_of_ble_eq_true rfl) (fun q2 h => ?_)
      show V _ _ _ _ _ _ _ (.int q2.1 :: []) _
      refine x_iload_n 3 d_Y_meldsLeft_27 rfl rfl ?_
      refine x_icmp_ne (tgt := 35) d_Y_meldsLeft_28 (by decide) h (fun h => ?_) (fun h => ?_)
      · refine x_ls [] rfl ?_
        exact tb_Y_meldsLeft_35 q2.2 _ h
      · refine x_iconst (v := 1) d_Y_meldsLeft_31 (by decide) ?_
        refine x_goto (tgt := 36) d_Y_meldsLeft_32 (by decide) ?_
        refine x_ls [] rfl ?_
        exact tb_Y_meldsLeft_36 1 q2.2 _ h
  · refine x_iconst (v := 0) d_Y_meldsLeft_5 (by decide) ?_
    cases h
    exact x_iret rfl d_Y_meldsLeft_6
theorem s_Y_meldsLeft : ∀ (d : Nat) (p0 : Option Nat) (p1 : Int32) (p2 : Int32) (p3 : Int32) (S : xS) (z : Int32 × xS), f_Y_meldsLeft d p0 p1 p2 p3 S = some z → ∀ (l : Launch) (D : xD), xMet l m_Y_meldsLeft D d [.inr (.inr p0), .inl p1, .inl p2, .inl p3] S (cvI z) := by
  intro d
  induction d with
  | zero =>
    intro p0 p1 p2 p3 S z h
    cases h
  | succ d ih =>
    intro p0 p1 p2 p3 S z h l D
    exact x_ofV rfl (by decide) (Nat.le_of_ble_eq_true rfl) (te_Y_meldsLeft  p0 p1 p2 p3 S z h)
set_option maxRecDepth 100000 in
set_option maxHeartbeats 4000000 in
theorem tb_Y_meldsRight_35 {D : xD} {d : Nat} {S0 : xS} : ∀ (y0 : Int32) (S : xS) (z : Int32 × xS), b_Y_meldsRight_35 d y0 S = some z → V m_Y_meldsRight D (d + 1) S0 (cvI z) 35 [] [.int y0] S := by
  intro y0 S z h
  unfold b_Y_meldsRight_35 at h
  cases h
  exact x_iret rfl d_Y_meldsRight_35
set_option maxRecDepth 100000 in
set_option maxHeartbeats 4000000 in
theorem tb_Y_meldsRight_34 {D : xD} {d : Nat} {S0 : xS} : ∀  (S : xS) (z : Int32 × xS), b_Y_meldsRight_34 d  S = some z → V m_Y_meldsRight D (d + 1) S0 (cvI z) 34 [] [] S := by
  intro  S z h
  unfold b_Y_meldsRight_34 at h
  refine x_iconst (v := 0) d_Y_meldsRight_34 (by decide) ?_
  refine x_ls [] rfl ?_
  exact tb_Y_meldsRight_35 0 S _ h
set_option maxRecDepth 100000 in
set_option maxHeartbeats 4000000 in
theorem te_Y_meldsRight {D : xD} {d : Nat} {S0 : xS} : ∀ (p0 : Option Nat) (p1 : Int32) (p2 : Int32) (p3 : Int32) (S : xS) (z : Int32 × xS), e_Y_meldsRight d p0 p1 p2 p3 S = some z → V m_Y_meldsRight D (d + 1) S0 (cvI z) 0 [(0, .inr (.inr p0)), (1, .inl p1), (2, .inl p2), (3, .inl p3)] [] S := by
  intro p0 p1 p2 p3 S z h
  unfold e_Y_meldsRight at h
  refine x_iload_n 1 d_Y_meldsRight_0 rfl rfl ?_
  refine x_aload_n 0 d_Y_meldsRight_1 rfl rfl ?_
  refine x_callS' (M' := m_R_charactersOf) (ax := [.inr (.inr p0)]) (cv := cvI) (host := (some "PieceTexts")) (st := [.int p1]) h (fun q h l => s_R_charactersOf d p0 S q h l D) rfl d_Y_meldsRight_2 wm_Y_23 wc_R_charactersOf rfl (Nat.le_of_ble_eq_true rfl) (fun q1 h => ?_)
  show V _ _ _ _ _ _ _ (.int q1.1 :: .int p1 :: []) _
  refine x_icmp_lt (tgt := 10) d_Y_meldsRight_5 (by decide) h (fun h => ?_) (fun h => ?_)
  · refine x_iload_n 2 d_Y_meldsRight_10 rfl rfl ?_
    refine x_iconst (v := 1) d_Y_meldsRight_11 (by decide) ?_
    refine x_iadd d_Y_meldsRight_12 ?_
    refine x_aload_n 0 d_Y_meldsRight_13 rfl rfl ?_
    refine x_iload_n 1 d_Y_meldsRight_14 rfl rfl ?_
    refine x_callS' (M' := m_R_sourceAt) (ax := [.inr (.inr p0), .inl p1]) (cv := cvI) (host := (some "PieceTexts")) (st := [.int (p2 + 1)]) h (fun q h l => s_R_sourceAt d p0 p1 q1.2 q h l D) rfl d_Y_meldsRight_15 wm_Y_29 wc_R_sourceAt rfl (Nat.le_of_ble_eq_true rfl) (fun q2 h => ?_)
    show V _ _ _ _ _ _ _ (.int q2.1 :: .int (p2 + 1) :: []) _
    refine x_icmp_ne (tgt := 34) d_Y_meldsRight_18 (by decide) h (fun h => ?_) (fun h => ?_)
    · refine x_ls [] rfl ?_
      exact tb_Y_meldsRight_34 q2.2 _ h
    · refine x_aload_n 0 d_Y_meldsRight_21 rfl rfl ?_
      refine x_iload_n 1 d_Y_meldsRight_22 rfl rfl ?_
      refine x_callS' (M' := m_R_tagAt) (ax := [.inr (.inr p0), .inl p1]) (cv := cvI) (host := (some "PieceTexts")) (st := []) h (fun q h l => s_R_tagAt d p0 p1 q2.2 q h l D) rfl d_Y_meldsRight_23 wm_Y_32 wc_R_tagAt rfl (Nat.le_of_ble_eq_true rfl) (fun q3 h => ?_)
      show V _ _ _ _ _ _ _ (.int q3.1 :: []) _
      refine x_iload_n 3 d_Y_meldsRight_26 rfl rfl ?_
      refine x_icmp_ne (tgt := 34) d_Y_meldsRight_27 (by decide) h (fun h => ?_) (fun h => ?_)
      · refine x_ls [] rfl ?_
        exact tb_Y_meldsRight_34 q3.2 _ h
      · refine x_iconst (v := 1) d_Y_meldsRight_30 (by decide) ?_
        refine x_goto (tgt := 35) d_Y_meldsRight_31 (by decide) ?_
        refine x_ls [] rfl ?_
        exact tb_Y_meldsRight_35 1 q3.2 _ h
  · refine x_iconst (v := 0) d_Y_meldsRight_8 (by decide) ?_
    cases h
    exact x_iret rfl d_Y_meldsRight_9
theorem s_Y_meldsRight : ∀ (d : Nat) (p0 : Option Nat) (p1 : Int32) (p2 : Int32) (p3 : Int32) (S : xS) (z : Int32 × xS), f_Y_meldsRight d p0 p1 p2 p3 S = some z → ∀ (l : Launch) (D : xD), xMet l m_Y_meldsRight D d [.inr (.inr p0), .inl p1, .inl p2, .inl p3] S (cvI z) := by
  intro d
  induction d with
  | zero =>
    intro p0 p1 p2 p3 S z h
    cases h
  | succ d ih =>
    intro p0 p1 p2 p3 S z h l D
    exact x_ofV rfl (by decide) (Nat.le_of_ble_eq_true rfl) (te_Y_meldsRight  p0 p1 p2 p3 S z h)
set_option maxRecDepth 100000 in
set_option maxHeartbeats 4000000 in
theorem te_Y_afterPut {D : xD} {d : Nat} {S0 : xS} : ∀ (p0 : Option Nat) (p1 : Int32) (p2 : Int32) (p3 : Int32) (p4 : Int32) (S : xS) (z : Int32 × xS), e_Y_afterPut d p0 p1 p2 p3 p4 S = some z → V m_Y_afterPut D (d + 1) S0 (cvI z) 0 [(0, .inr (.inr p0)), (1, .inl p1), (2, .inl p2), (3, .inl p3), (4, .inl p4)] [] S := by
  intro p0 p1 p2 p3 p4 S z h
  unfold e_Y_afterPut at h
  refine x_aload_n 0 d_Y_afterPut_0 rfl rfl ?_
  refine x_iload_n 1 d_Y_afterPut_1 rfl rfl ?_
  refine x_callS' (M' := m_Y_before) (ax := [.inr (.inr p0), .inl p1]) (cv := cvI) (host := none) (st := []) h (fun q h l => s_Y_before d p0 p1 S q h l D) rfl d_Y_afterPut_2 wm_Y_7 wc_Y_before rfl (Nat.le_of_ble_eq_true rfl) (fun q1 h => ?_)
  show V _ _ _ _ _ _ _ (.int q1.1 :: []) _
  refine x_iconst (v := 1) d_Y_afterPut_5 (by decide) ?_
  refine x_iadd d_Y_afterPut_6 ?_
  refine x_aload_n 0 d_Y_afterPut_7 rfl rfl ?_
  refine x_iload_n 1 d_Y_afterPut_8 rfl rfl ?_
  refine x_callS' (M' := m_Y_behind) (ax := [.inr (.inr p0), .inl p1]) (cv := cvI) (host := none) (st := [.int (q1.1 + 1)]) h (fun q h l => s_Y_behind d p0 p1 q1.2 q h l D) rfl d_Y_afterPut_9 wm_Y_13 wc_Y_behind rfl (Nat.le_of_ble_eq_true rfl) (fun q2 h => ?_)
  show V _ _ _ _ _ _ _ (.int q2.1 :: .int (q1.1 + 1) :: []) _
  refine x_iadd d_Y_afterPut_12 ?_
  refine x_aload_n 0 d_Y_afterPut_13 rfl rfl ?_
  refine x_iload_n 1 d_Y_afterPut_14 rfl rfl ?_
  refine x_iload_n 2 d_Y_afterPut_15 rfl rfl ?_
  refine x_iload 4 d_Y_afterPut_16 rfl ?_
  refine x_callS' (M' := m_Y_meldsLeft) (ax := [.inr (.inr p0), .inl p1, .inl p2, .inl p4]) (cv := cvI) (host := none) (st := [.int ((q1.1 + 1) + q2.1)]) h (fun q h l => s_Y_meldsLeft d p0 p1 p2 p4 q2.2 q h l D) rfl d_Y_afterPut_18 wm_Y_16 wc_Y_meldsLeft rfl (Nat.le_of_ble_eq_true rfl) (fun q3 h => ?_)
  show V _ _ _ _ _ _ _ (.int q3.1 :: .int ((q1.1 + 1) + q2.1) :: []) _
  refine x_isub d_Y_afterPut_21 ?_
  refine x_aload_n 0 d_Y_afterPut_22 rfl rfl ?_
  refine x_iload_n 1 d_Y_afterPut_23 rfl rfl ?_
  refine x_iload_n 2 d_Y_afterPut_24 rfl rfl ?_
  refine x_iload_n 3 d_Y_afterPut_25 rfl rfl ?_
  refine x_iadd d_Y_afterPut_26 ?_
  refine x_iconst (v := 1) d_Y_afterPut_27 (by decide) ?_
  refine x_isub d_Y_afterPut_28 ?_
  refine x_iload 4 d_Y_afterPut_29 rfl ?_
  refine x_callS' (M' := m_Y_meldsRight) (ax := [.inr (.inr p0), .inl p1, .inl ((p2 + p3) - 1), .inl p4]) (cv := cvI) (host := none) (st := [.int (((q1.1 + 1) + q2.1) - q3.1)]) h (fun q h l => s_Y_meldsRight d p0 p1 ((p2 + p3) - 1) p4 q3.2 q h l D) rfl d_Y_afterPut_31 wm_Y_20 wc_Y_meldsRight rfl (Nat.le_of_ble_eq_true rfl) (fun q4 h => ?_)
  show V _ _ _ _ _ _ _ (.int q4.1 :: .int (((q1.1 + 1) + q2.1) - q3.1) :: []) _
  refine x_isub d_Y_afterPut_34 ?_
  cases h
  exact x_iret rfl d_Y_afterPut_35
theorem s_Y_afterPut : ∀ (d : Nat) (p0 : Option Nat) (p1 : Int32) (p2 : Int32) (p3 : Int32) (p4 : Int32) (S : xS) (z : Int32 × xS), f_Y_afterPut d p0 p1 p2 p3 p4 S = some z → ∀ (l : Launch) (D : xD), xMet l m_Y_afterPut D d [.inr (.inr p0), .inl p1, .inl p2, .inl p3, .inl p4] S (cvI z) := by
  intro d
  induction d with
  | zero =>
    intro p0 p1 p2 p3 p4 S z h
    cases h
  | succ d ih =>
    intro p0 p1 p2 p3 p4 S z h l D
    exact x_ofV rfl (by decide) (Nat.le_of_ble_eq_true rfl) (te_Y_afterPut  p0 p1 p2 p3 p4 S z h)
set_option maxRecDepth 100000 in
set_option maxHeartbeats 4000000 in
theorem tb_R_heightOf_12 {D : xD} {d : Nat} {S0 : xS} : ∀ (y0 : Int32) (S : xS) (z : Int32 × xS), b_R_heightOf_12 d y0 S = some z → V m_R_heightOf D (d + 1) S0 (cvI z) 12 [] [.int y0] S := by
  intro y0 S z h
  unfold b_R_heightOf_12 at h
  cases h
  exact x_iret rfl d_R_heightOf_12
set_option maxRecDepth 100000 in
set_option maxHeartbeats 4000000 in
theorem te_R_heightOf {D : xD} {d : Nat} {S0 : xS} : ∀ (p0 : Option Nat) (S : xS) (z : Int32 × xS), e_R_heightOf d p0 S = some z → V m_R_heightOf D (d + 1) S0 (cvI z) 0 [(0, .inr (.inr p0))] [] S := by
  intro p0 S z h
  unfold e_R_heightOf at h
  refine x_aload_n 0 d_R_heightOf_0 rfl rfl ?_
  refine x_ifnonnull (tgt := 8) d_R_heightOf_1 (by decide) h (fun _ _ h => ?_) (fun _ h => ?_)
  · refine x_aload_n 0 d_R_heightOf_8 rfl rfl ?_
    refine x_getI (host := (some "PieceTexts")) h hc_2 hi_2 (by decide) wf_R_9 d_R_heightOf_9 (fun v2 h => ?_)
    refine x_ls [] rfl ?_
    exact tb_R_heightOf_12 v2 S _ h
  · refine x_iconst (v := 0) d_R_heightOf_4 (by decide) ?_
    refine x_goto (tgt := 12) d_R_heightOf_5 (by decide) ?_
    refine x_ls [] rfl ?_
    exact tb_R_heightOf_12 0 S _ h
theorem s_R_heightOf : ∀ (d : Nat) (p0 : Option Nat) (S : xS) (z : Int32 × xS), f_R_heightOf d p0 S = some z → ∀ (l : Launch) (D : xD), xMet l m_R_heightOf D d [.inr (.inr p0)] S (cvI z) := by
  intro d
  induction d with
  | zero =>
    intro p0 S z h
    cases h
  | succ d ih =>
    intro p0 S z h l D
    exact x_ofV rfl (by decide) (Nat.le_of_ble_eq_true rfl) (te_R_heightOf  p0 S z h)
set_option maxRecDepth 100000 in
set_option maxHeartbeats 4000000 in
theorem te_H_init {D : xD} {d : Nat} {S0 : xS} : ∀ (p0 : Option Nat) (S : xS) (z : Unit × xS), e_H_init d p0 S = some z → V m_H_init D (d + 1) S0 (cvV z) 0 [(0, .inr (.inr p0))] [] S := by
  intro p0 S z h
  unfold e_H_init at h
  refine x_aload_n 0 d_H_init_0 rfl rfl ?_
  refine x_objInit' h d_H_init_1 wO_H_1 w_objI w_objC (Nat.le_of_ble_eq_true rfl) (fun h => ?_)
  cases h
  exact x_vret rfl d_H_init_4
theorem s_H_init : ∀ (d : Nat) (p0 : Option Nat) (S : xS) (z : Unit × xS), f_H_init d p0 S = some z → ∀ (l : Launch) (D : xD), xMet l m_H_init D d [.inr (.inr p0)] S (cvV z) := by
  intro d
  induction d with
  | zero =>
    intro p0 S z h
    cases h
  | succ d ih =>
    intro p0 S z h l D
    exact x_ofV rfl (by decide) (Nat.le_of_ble_eq_true rfl) (te_H_init  p0 S z h)
set_option maxRecDepth 100000 in
set_option maxHeartbeats 4000000 in
theorem te_N_init {D : xD} {d : Nat} {S0 : xS} : ∀ (p0 : Option Nat) (S : xS) (z : Unit × xS), e_N_init d p0 S = some z → V m_N_init D (d + 1) S0 (cvV z) 0 [(0, .inr (.inr p0))] [] S := by
  intro p0 S z h
  unfold e_N_init at h
  refine x_aload_n 0 d_N_init_0 rfl rfl ?_
  refine x_objInit' h d_N_init_1 wO_N_1 w_objI w_objC (Nat.le_of_ble_eq_true rfl) (fun h => ?_)
  cases h
  exact x_vret rfl d_N_init_4
theorem s_N_init : ∀ (d : Nat) (p0 : Option Nat) (S : xS) (z : Unit × xS), f_N_init d p0 S = some z → ∀ (l : Launch) (D : xD), xMet l m_N_init D d [.inr (.inr p0)] S (cvV z) := by
  intro d
  induction d with
  | zero =>
    intro p0 S z h
    cases h
  | succ d ih =>
    intro p0 S z h l D
    exact x_ofV rfl (by decide) (Nat.le_of_ble_eq_true rfl) (te_N_init  p0 S z h)
set_option maxRecDepth 100000 in
set_option maxHeartbeats 4000000 in
theorem te_Y_afterCut {D : xD} {d : Nat} {S0 : xS} : ∀ (p0 : Option Nat) (p1 : Int32) (p2 : Int32) (S : xS) (z : Int32 × xS), e_Y_afterCut d p0 p1 p2 S = some z → V m_Y_afterCut D (d + 1) S0 (cvI z) 0 [(0, .inr (.inr p0)), (1, .inl p1), (2, .inl p2)] [] S := by
  intro p0 p1 p2 S z h
  unfold e_Y_afterCut at h
  refine x_iload_n 1 d_Y_afterCut_0 rfl rfl ?_
  refine x_iload_n 2 d_Y_afterCut_1 rfl rfl ?_
  refine x_iadd d_Y_afterCut_2 ?_
  refine x_istore_n (lv' := [(3, .inl (p1 + p2)), (0, .inr (.inr p0)), (1, .inl p1), (2, .inl p2)]) d_Y_afterCut_3 rfl (by decide) rfl ?_
  refine x_aload_n 1 d_Y_afterCut_4 rfl rfl ?_
  refine x_iload_n 2 d_Y_afterCut_5 rfl rfl ?_
  refine x_callS' (M' := m_Y_before) (ax := [.inr (.inr p0), .inl p1]) (cv := cvI) (host := none) (st := []) h (fun q h l => s_Y_before d p0 p1 S q h l D) rfl d_Y_afterCut_6 wm_Y_7 wc_Y_before rfl (Nat.le_of_ble_eq_true rfl) (fun q1 h => ?_)
  show V _ _ _ _ _ _ _ (.int q1.1 :: []) _
  refine x_aload_n 1 d_Y_afterCut_9 rfl rfl ?_
  refine x_iload_n 0 d_Y_afterCut_10 rfl rfl ?_
  refine x_callS' (M' := m_Y_behind) (ax := [.inr (.inr p0), .inl (p1 + p2)]) (cv := cvI) (host := none) (st := [.int q1.1]) h (fun q h l => s_Y_behind d p0 (p1 + p2) q1.2 q h l D) rfl d_Y_afterCut_11 wm_Y_13 wc_Y_behind rfl (Nat.le_of_ble_eq_true rfl) (fun q2 h => ?_)
  show V _ _ _ _ _ _ _ (.int q2.1 :: .int q1.1 :: []) _
  refine x_iadd d_Y_afterCut_14 ?_
  refine x_istore (lv' := [(4, .inl (q1.1 + q2.1)), (3, .inl (p1 + p2)), (0, .inr (.inr p0)), (1, .inl p1), (2, .inl p2)]) d_Y_afterCut_15 (by decide) rfl ?_
  refine x_iload_n 1 d_Y_afterCut_17 rfl rfl ?_
  refine x_aload_n 2 d_Y_afterCut_18 rfl rfl ?_
  refine x_callS' (M' := m_R_charactersOf) (ax := [.inr (.inr p0)]) (cv := cvI) (host := (some "PieceTexts")) (st := [.int (p1 + p2)]) h (fun q h l => s_R_charactersOf d p0 q2.2 q h l D) rfl d_Y_afterCut_19 wm_Y_23 wc_R_charactersOf rfl (Nat.le_of_ble_eq_true rfl) (fun q3 h => ?_)
  show V _ _ _ _ _ _ _ (.int q3.1 :: .int (p1 + p2) :: []) _
  refine x_icmp_lt (tgt := 28) d_Y_afterCut_22 (by decide) h (fun h => ?_) (fun h => ?_)
  · refine x_iload 0 d_Y_afterCut_28 rfl ?_
    refine x_aload_n 2 d_Y_afterCut_30 rfl rfl ?_
    refine x_iload_n 3 d_Y_afterCut_31 rfl rfl ?_
    refine x_aload_n 2 d_Y_afterCut_32 rfl rfl ?_
    refine x_iload_n 1 d_Y_afterCut_33 rfl rfl ?_
    refine x_callS' (M' := m_R_sourceAt) (ax := [.inr (.inr p0), .inl (p1 + p2)]) (cv := cvI) (host := (some "PieceTexts")) (st := [.int p1, va_rf p0, .int (q1.1 + q2.1)]) h (fun q h l => s_R_sourceAt d p0 (p1 + p2) q3.2 q h l D) rfl d_Y_afterCut_34 wm_Y_29 wc_R_sourceAt rfl (Nat.le_of_ble_eq_true rfl) (fun q4 h => ?_)
    show V _ _ _ _ _ _ _ (.int q4.1 :: .int p1 :: va_rf p0 :: .int (q1.1 + q2.1) :: []) _
    refine x_aload_n 2 d_Y_afterCut_37 rfl rfl ?_
    refine x_iload_n 1 d_Y_afterCut_38 rfl rfl ?_
    refine x_callS' (M' := m_R_tagAt) (ax := [.inr (.inr p0), .inl (p1 + p2)]) (cv := cvI) (host := (some "PieceTexts")) (st := [.int q4.1, .int p1, va_rf p0, .int (q1.1 + q2.1)]) h (fun q h l => s_R_tagAt d p0 (p1 + p2) q4.2 q h l D) rfl d_Y_afterCut_39 wm_Y_32 wc_R_tagAt rfl (Nat.le_of_ble_eq_true rfl) (fun q5 h => ?_)
    show V _ _ _ _ _ _ _ (.int q5.1 :: .int q4.1 :: .int p1 :: va_rf p0 :: .int (q1.1 + q2.1) :: []) _
    refine x_callS' (M' := m_Y_meldsLeft) (ax := [.inr (.inr p0), .inl p1, .inl q4.1, .inl q5.1]) (cv := cvI) (host := none) (st := [.int (q1.1 + q2.1)]) h (fun q h l => s_Y_meldsLeft d p0 p1 q4.1 q5.1 q5.2 q h l D) rfl d_Y_afterCut_42 wm_Y_16 wc_Y_meldsLeft rfl (Nat.le_of_ble_eq_true rfl) (fun q6 h => ?_)
    show V _ _ _ _ _ _ _ (.int q6.1 :: .int (q1.1 + q2.1) :: []) _
    refine x_isub d_Y_afterCut_45 ?_
    cases h
    exact x_iret rfl d_Y_afterCut_46
  · refine x_iload 0 d_Y_afterCut_25 rfl ?_
    cases h
    exact x_iret rfl d_Y_afterCut_27
theorem s_Y_afterCut : ∀ (d : Nat) (p0 : Option Nat) (p1 : Int32) (p2 : Int32) (S : xS) (z : Int32 × xS), f_Y_afterCut d p0 p1 p2 S = some z → ∀ (l : Launch) (D : xD), xMet l m_Y_afterCut D d [.inr (.inr p0), .inl p1, .inl p2] S (cvI z) := by
  intro d
  induction d with
  | zero =>
    intro p0 p1 p2 S z h
    cases h
  | succ d ih =>
    intro p0 p1 p2 S z h l D
    exact x_ofV rfl (by decide) (Nat.le_of_ble_eq_true rfl) (te_Y_afterCut  p0 p1 p2 S z h)
set_option maxRecDepth 100000 in
set_option maxHeartbeats 4000000 in
theorem tb_Y_within_26 {D : xD} {d : Nat} {S0 : xS} : ∀ (y0 : Int32) (S : xS) (z : Int32 × xS), b_Y_within_26 d y0 S = some z → V m_Y_within D (d + 1) S0 (cvI z) 26 [] [.int y0] S := by
  intro y0 S z h
  unfold b_Y_within_26 at h
  cases h
  exact x_iret rfl d_Y_within_26
set_option maxRecDepth 100000 in
set_option maxHeartbeats 4000000 in
theorem te_Y_within {D : xD} {d : Nat} {S0 : xS} : ∀ (p0 : Option Nat) (p1 : Int32) (p2 : Int32) (S : xS) (z : Int32 × xS), e_Y_within d p0 p1 p2 S = some z → V m_Y_within D (d + 1) S0 (cvI z) 0 [(0, .inr (.inr p0)), (1, .inl p1), (2, .inl p2)] [] S := by
  intro p0 p1 p2 S z h
  unfold e_Y_within at h
  refine x_iload_n 2 d_Y_within_0 rfl rfl ?_
  refine x_iconst (v := 1) d_Y_within_1 (by decide) ?_
  refine x_icmp_ge (tgt := 9) d_Y_within_2 (by decide) h (fun h => ?_) (fun h => ?_)
  · refine x_aload_n 0 d_Y_within_9 rfl rfl ?_
    refine x_iload_n 1 d_Y_within_10 rfl rfl ?_
    refine x_iload_n 2 d_Y_within_11 rfl rfl ?_
    refine x_iadd d_Y_within_12 ?_
    refine x_iconst (v := 1) d_Y_within_13 (by decide) ?_
    refine x_isub d_Y_within_14 ?_
    refine x_callS' (M' := m_R_orderAt) (ax := [.inr (.inr p0), .inl ((p1 + p2) - 1)]) (cv := cvI) (host := (some "PieceTexts")) (st := []) h (fun q h l => s_R_orderAt d p0 ((p1 + p2) - 1) S q h l D) rfl d_Y_within_15 wm_Y_46 wc_R_orderAt rfl (Nat.le_of_ble_eq_true rfl) (fun q1 h => ?_)
    show V _ _ _ _ _ _ _ (.int q1.1 :: []) _
    refine x_aload_n 0 d_Y_within_18 rfl rfl ?_
    refine x_iload_n 1 d_Y_within_19 rfl rfl ?_
    refine x_callS' (M' := m_R_orderAt) (ax := [.inr (.inr p0), .inl p1]) (cv := cvI) (host := (some "PieceTexts")) (st := [.int q1.1]) h (fun q h l => s_R_orderAt d p0 p1 q1.2 q h l D) rfl d_Y_within_20 wm_Y_46 wc_R_orderAt rfl (Nat.le_of_ble_eq_true rfl) (fun q2 h => ?_)
    show V _ _ _ _ _ _ _ (.int q2.1 :: .int q1.1 :: []) _
    refine x_isub d_Y_within_23 ?_
    refine x_iconst (v := 1) d_Y_within_24 (by decide) ?_
    refine x_iadd d_Y_within_25 ?_
    refine x_ls [] rfl ?_
    exact tb_Y_within_26 ((q1.1 - q2.1) + 1) q2.2 _ h
  · refine x_iconst (v := 0) d_Y_within_5 (by decide) ?_
    refine x_goto (tgt := 26) d_Y_within_6 (by decide) ?_
    refine x_ls [] rfl ?_
    exact tb_Y_within_26 0 S _ h
theorem s_Y_within : ∀ (d : Nat) (p0 : Option Nat) (p1 : Int32) (p2 : Int32) (S : xS) (z : Int32 × xS), f_Y_within d p0 p1 p2 S = some z → ∀ (l : Launch) (D : xD), xMet l m_Y_within D d [.inr (.inr p0), .inl p1, .inl p2] S (cvI z) := by
  intro d
  induction d with
  | zero =>
    intro p0 p1 p2 S z h
    cases h
  | succ d ih =>
    intro p0 p1 p2 S z h l D
    exact x_ofV rfl (by decide) (Nat.le_of_ble_eq_true rfl) (te_Y_within  p0 p1 p2 S z h)
set_option maxRecDepth 100000 in
set_option maxHeartbeats 4000000 in
theorem te_Y_afterPaste {D : xD} {d : Nat} {S0 : xS} : ∀ (p0 : Option Nat) (p1 : Int32) (p2 : Option Nat) (S : xS) (z : Int32 × xS), e_Y_afterPaste d p0 p1 p2 S = some z → V m_Y_afterPaste D (d + 1) S0 (cvI z) 0 [(0, .inr (.inr p0)), (1, .inl p1), (2, .inr (.inr p2))] [] S := by
  intro p0 p1 p2 S z h
  unfold e_Y_afterPaste at h
  refine x_aload_n 2 d_Y_afterPaste_0 rfl rfl ?_
  refine x_ifnonnull (tgt := 9) d_Y_afterPaste_1 (by decide) h (fun _ _ h => ?_) (fun _ h => ?_)
  · refine x_aload_n 2 d_Y_afterPaste_9 rfl rfl ?_
    refine x_callS' (M' := m_R_charactersOf) (ax := [.inr (.inr p2)]) (cv := cvI) (host := (some "PieceTexts")) (st := []) h (fun q h l => s_R_charactersOf d p2 S q h l D) rfl d_Y_afterPaste_10 wm_Y_23 wc_R_charactersOf rfl (Nat.le_of_ble_eq_true rfl) (fun q3 h => ?_)
    show V _ _ _ _ _ _ _ (.int q3.1 :: []) _
    refine x_iconst (v := 1) d_Y_afterPaste_13 (by decide) ?_
    refine x_isub d_Y_afterPaste_14 ?_
    refine x_istore_n (lv' := [(3, .inl (q3.1 - 1)), (0, .inr (.inr p0)), (1, .inl p1), (2, .inr (.inr p2))]) d_Y_afterPaste_15 rfl (by decide) rfl ?_
    refine x_aload_n 1 d_Y_afterPaste_16 rfl rfl ?_
    refine x_iload_n 2 d_Y_afterPaste_17 rfl rfl ?_
    refine x_callS' (M' := m_Y_before) (ax := [.inr (.inr p0), .inl p1]) (cv := cvI) (host := none) (st := []) h (fun q h l => s_Y_before d p0 p1 q3.2 q h l D) rfl d_Y_afterPaste_18 wm_Y_7 wc_Y_before rfl (Nat.le_of_ble_eq_true rfl) (fun q4 h => ?_)
    show V _ _ _ _ _ _ _ (.int q4.1 :: []) _
    refine x_aload_n 3 d_Y_afterPaste_21 rfl rfl ?_
    refine x_callS' (M' := m_R_piecesOf) (ax := [.inr (.inr p2)]) (cv := cvI) (host := (some "PieceTexts")) (st := [.int q4.1]) h (fun q h l => s_R_piecesOf d p2 q4.2 q h l D) rfl d_Y_afterPaste_22 wm_Y_35 wc_R_piecesOf rfl (Nat.le_of_ble_eq_true rfl) (fun q5 h => ?_)
    show V _ _ _ _ _ _ _ (.int q5.1 :: .int q4.1 :: []) _
    refine x_iadd d_Y_afterPaste_25 ?_
    refine x_aload_n 1 d_Y_afterPaste_26 rfl rfl ?_
    refine x_iload_n 2 d_Y_afterPaste_27 rfl rfl ?_
    refine x_callS' (M' := m_Y_behind) (ax := [.inr (.inr p0), .inl p1]) (cv := cvI) (host := none) (st := [.int (q4.1 + q5.1)]) h (fun q h l => s_Y_behind d p0 p1 q5.2 q h l D) rfl d_Y_afterPaste_28 wm_Y_13 wc_Y_behind rfl (Nat.le_of_ble_eq_true rfl) (fun q6 h => ?_)
    show V _ _ _ _ _ _ _ (.int q6.1 :: .int (q4.1 + q5.1) :: []) _
    refine x_iadd d_Y_afterPaste_31 ?_
    refine x_aload_n 1 d_Y_afterPaste_32 rfl rfl ?_
    refine x_iload_n 2 d_Y_afterPaste_33 rfl rfl ?_
    refine x_aload_n 3 d_Y_afterPaste_34 rfl rfl ?_
    refine x_iconst (v := 0) d_Y_afterPaste_35 (by decide) ?_
    refine x_callS' (M' := m_R_sourceAt) (ax := [.inr (.inr p2), .inl 0]) (cv := cvI) (host := (some "PieceTexts")) (st := [.int p1, va_rf p0, .int ((q4.1 + q5.1) + q6.1)]) h (fun q h l => s_R_sourceAt d p2 0 q6.2 q h l D) rfl d_Y_afterPaste_36 wm_Y_29 wc_R_sourceAt rfl (Nat.le_of_ble_eq_true rfl) (fun q7 h => ?_)
    show V _ _ _ _ _ _ _ (.int q7.1 :: .int p1 :: va_rf p0 :: .int ((q4.1 + q5.1) + q6.1) :: []) _
    refine x_aload_n 3 d_Y_afterPaste_39 rfl rfl ?_
    refine x_iconst (v := 0) d_Y_afterPaste_40 (by decide) ?_
    refine x_callS' (M' := m_R_tagAt) (ax := [.inr (.inr p2), .inl 0]) (cv := cvI) (host := (some "PieceTexts")) (st := [.int q7.1, .int p1, va_rf p0, .int ((q4.1 + q5.1) + q6.1)]) h (fun q h l => s_R_tagAt d p2 0 q7.2 q h l D) rfl d_Y_afterPaste_41 wm_Y_32 wc_R_tagAt rfl (Nat.le_of_ble_eq_true rfl) (fun q8 h => ?_)
    show V _ _ _ _ _ _ _ (.int q8.1 :: .int q7.1 :: .int p1 :: va_rf p0 :: .int ((q4.1 + q5.1) + q6.1) :: []) _
    refine x_callS' (M' := m_Y_meldsLeft) (ax := [.inr (.inr p0), .inl p1, .inl q7.1, .inl q8.1]) (cv := cvI) (host := none) (st := [.int ((q4.1 + q5.1) + q6.1)]) h (fun q h l => s_Y_meldsLeft d p0 p1 q7.1 q8.1 q8.2 q h l D) rfl d_Y_afterPaste_44 wm_Y_16 wc_Y_meldsLeft rfl (Nat.le_of_ble_eq_true rfl) (fun q9 h => ?_)
    show V _ _ _ _ _ _ _ (.int q9.1 :: .int ((q4.1 + q5.1) + q6.1) :: []) _
    refine x_isub d_Y_afterPaste_47 ?_
    refine x_aload_n 1 d_Y_afterPaste_48 rfl rfl ?_
    refine x_iload_n 2 d_Y_afterPaste_49 rfl rfl ?_
    refine x_aload_n 3 d_Y_afterPaste_50 rfl rfl ?_
    refine x_iload_n 0 d_Y_afterPaste_51 rfl rfl ?_
    refine x_callS' (M' := m_R_sourceAt) (ax := [.inr (.inr p2), .inl (q3.1 - 1)]) (cv := cvI) (host := (some "PieceTexts")) (st := [.int p1, va_rf p0, .int (((q4.1 + q5.1) + q6.1) - q9.1)]) h (fun q h l => s_R_sourceAt d p2 (q3.1 - 1) q9.2 q h l D) rfl d_Y_afterPaste_52 wm_Y_29 wc_R_sourceAt rfl (Nat.le_of_ble_eq_true rfl) (fun q10 h => ?_)
    show V _ _ _ _ _ _ _ (.int q10.1 :: .int p1 :: va_rf p0 :: .int (((q4.1 + q5.1) + q6.1) - q9.1) :: []) _
    refine x_aload_n 3 d_Y_afterPaste_55 rfl rfl ?_
    refine x_iload_n 0 d_Y_afterPaste_56 rfl rfl ?_
    refine x_callS' (M' := m_R_tagAt) (ax := [.inr (.inr p2), .inl (q3.1 - 1)]) (cv := cvI) (host := (some "PieceTexts")) (st := [.int q10.1, .int p1, va_rf p0, .int (((q4.1 + q5.1) + q6.1) - q9.1)]) h (fun q h l => s_R_tagAt d p2 (q3.1 - 1) q10.2 q h l D) rfl d_Y_afterPaste_57 wm_Y_32 wc_R_tagAt rfl (Nat.le_of_ble_eq_true rfl) (fun q11 h => ?_)
    show V _ _ _ _ _ _ _ (.int q11.1 :: .int q10.1 :: .int p1 :: va_rf p0 :: .int (((q4.1 + q5.1) + q6.1) - q9.1) :: []) _
    refine x_callS' (M' := m_Y_meldsRight) (ax := [.inr (.inr p0), .inl p1, .inl q10.1, .inl q11.1]) (cv := cvI) (host := none) (st := [.int (((q4.1 + q5.1) + q6.1) - q9.1)]) h (fun q h l => s_Y_meldsRight d p0 p1 q10.1 q11.1 q11.2 q h l D) rfl d_Y_afterPaste_60 wm_Y_20 wc_Y_meldsRight rfl (Nat.le_of_ble_eq_true rfl) (fun q12 h => ?_)
    show V _ _ _ _ _ _ _ (.int q12.1 :: .int (((q4.1 + q5.1) + q6.1) - q9.1) :: []) _
    refine x_isub d_Y_afterPaste_63 ?_
    cases h
    exact x_iret rfl d_Y_afterPaste_64
  · refine x_aload_n 0 d_Y_afterPaste_4 rfl rfl ?_
    refine x_callS' (M' := m_R_piecesOf) (ax := [.inr (.inr p0)]) (cv := cvI) (host := (some "PieceTexts")) (st := []) h (fun q h l => s_R_piecesOf d p0 S q h l D) rfl d_Y_afterPaste_5 wm_Y_35 wc_R_piecesOf rfl (Nat.le_of_ble_eq_true rfl) (fun q2 h => ?_)
    show V _ _ _ _ _ _ _ (.int q2.1 :: []) _
    cases h
    exact x_iret rfl d_Y_afterPaste_8
theorem s_Y_afterPaste : ∀ (d : Nat) (p0 : Option Nat) (p1 : Int32) (p2 : Option Nat) (S : xS) (z : Int32 × xS), f_Y_afterPaste d p0 p1 p2 S = some z → ∀ (l : Launch) (D : xD), xMet l m_Y_afterPaste D d [.inr (.inr p0), .inl p1, .inr (.inr p2)] S (cvI z) := by
  intro d
  induction d with
  | zero =>
    intro p0 p1 p2 S z h
    cases h
  | succ d ih =>
    intro p0 p1 p2 S z h l D
    exact x_ofV rfl (by decide) (Nat.le_of_ble_eq_true rfl) (te_Y_afterPaste  p0 p1 p2 S z h)
set_option maxRecDepth 100000 in
set_option maxHeartbeats 4000000 in
theorem te_Y_tagged {D : xD} {d : Nat} {S0 : xS} : ∀ (p0 : Int32) (p1 : Int32) (p2 : Int32) (S : xS) (z : Int32 × xS), e_Y_tagged d p0 p1 p2 S = some z → V m_Y_tagged D (d + 1) S0 (cvI z) 0 [(0, .inl p0), (1, .inl p1), (2, .inl p2)] [] S := by
  intro p0 p1 p2 S z h
  unfold e_Y_tagged at h
  refine x_iload_n 0 d_Y_tagged_0 rfl rfl ?_
  refine x_iload_n 1 d_Y_tagged_1 rfl rfl ?_
  refine x_iconst (v := (-1)) d_Y_tagged_2 (by decide) ?_
  refine x_ixor d_Y_tagged_3 ?_
  refine x_iand d_Y_tagged_4 ?_
  refine x_iload_n 2 d_Y_tagged_5 rfl rfl ?_
  refine x_iload_n 1 d_Y_tagged_6 rfl rfl ?_
  refine x_iand d_Y_tagged_7 ?_
  refine x_ior d_Y_tagged_8 ?_
  cases h
  exact x_iret rfl d_Y_tagged_9
theorem s_Y_tagged : ∀ (d : Nat) (p0 : Int32) (p1 : Int32) (p2 : Int32) (S : xS) (z : Int32 × xS), f_Y_tagged d p0 p1 p2 S = some z → ∀ (l : Launch) (D : xD), xMet l m_Y_tagged D d [.inl p0, .inl p1, .inl p2] S (cvI z) := by
  intro d
  induction d with
  | zero =>
    intro p0 p1 p2 S z h
    cases h
  | succ d ih =>
    intro p0 p1 p2 S z h l D
    exact x_ofV rfl (by decide) (Nat.le_of_ble_eq_true rfl) (te_Y_tagged  p0 p1 p2 S z h)
set_option maxRecDepth 100000 in
set_option maxHeartbeats 4000000 in
theorem tb_Y_withinTagged_107 {D : xD} {d : Nat} {S0 : xS} {k35 : Option Nat → Int32 → Int32 → Int32 → Int32 → Option Nat → Int32 → xS → Option (Int32 × xS)} (hk35 : ∀ (x0 : Option Nat) (x3 : Int32) (x4 : Int32) (x6 : Int32) (x7 : Int32) (x8 : Option Nat) (x9 : Int32)  (S : xS) (z : Int32 × xS), k35 x0 x3 x4 x6 x7 x8 x9 S = some z → V m_Y_withinTagged D (d + 1) S0 (cvI z) 35 [(0, .inr (.inr x0)), (3, .inl x3), (4, .inl x4), (6, .inl x6), (7, .inl x7), (8, .inr (.inr x8)), (9, .inl x9)] [] S) : ∀ (x0 : Option Nat) (x3 : Int32) (x4 : Int32) (x6 : Int32) (x7 : Int32) (x9 : Int32) (x10 : Option Nat) (S : xS) (z : Int32 × xS), b_Y_withinTagged_107 d k35 x0 x3 x4 x6 x7 x9 x10 S = some z → V m_Y_withinTagged D (d + 1) S0 (cvI z) 107 [(0, .inr (.inr x0)), (3, .inl x3), (4, .inl x4), (6, .inl x6), (7, .inl x7), (9, .inl x9), (10, .inr (.inr x10))] [] S := by
  intro x0 x3 x4 x6 x7 x9 x10 S z h
  unfold b_Y_withinTagged_107 at h
  refine x_aload 6 d_Y_withinTagged_107 rfl ?_
  refine x_astore (lv' := [(8, .inr (.inr x10)), (0, .inr (.inr x0)), (3, .inl x3), (4, .inl x4), (6, .inl x6), (7, .inl x7), (9, .inl x9), (10, .inr (.inr x10))]) d_Y_withinTagged_109 (by decide) rfl ?_
  refine x_iinc (v := 1) (lv' := [(9, .inl (x9 + 1)), (8, .inr (.inr x10)), (0, .inr (.inr x0)), (3, .inl x3), (4, .inl x4), (6, .inl x6), (7, .inl x7), (10, .inr (.inr x10))]) 6 d_Y_withinTagged_111 rfl (by decide) (by decide) rfl ?_
  refine x_goto (tgt := 35) d_Y_withinTagged_114 (by decide) ?_
  refine x_ls [2, 3, 4, 5, 6, 1, 0] rfl ?_
  exact hk35 x0 x3 x4 x6 x7 x10 (x9 + 1) S _ h
set_option maxRecDepth 100000 in
set_option maxHeartbeats 4000000 in
theorem tb_Y_withinTagged_104 {D : xD} {d : Nat} {S0 : xS} {k35 : Option Nat → Int32 → Int32 → Int32 → Int32 → Option Nat → Int32 → xS → Option (Int32 × xS)} (hk35 : ∀ (x0 : Option Nat) (x3 : Int32) (x4 : Int32) (x6 : Int32) (x7 : Int32) (x8 : Option Nat) (x9 : Int32)  (S : xS) (z : Int32 × xS), k35 x0 x3 x4 x6 x7 x8 x9 S = some z → V m_Y_withinTagged D (d + 1) S0 (cvI z) 35 [(0, .inr (.inr x0)), (3, .inl x3), (4, .inl x4), (6, .inl x6), (7, .inl x7), (8, .inr (.inr x8)), (9, .inl x9)] [] S) : ∀ (x0 : Option Nat) (x3 : Int32) (x4 : Int32) (x6 : Int32) (x7 : Int32) (x9 : Int32) (x10 : Option Nat) (S : xS) (z : Int32 × xS), b_Y_withinTagged_104 d k35 x0 x3 x4 x6 x7 x9 x10 S = some z → V m_Y_withinTagged D (d + 1) S0 (cvI z) 104 [(0, .inr (.inr x0)), (3, .inl x3), (4, .inl x4), (6, .inl x6), (7, .inl x7), (9, .inl x9), (10, .inr (.inr x10))] [] S := by
  intro x0 x3 x4 x6 x7 x9 x10 S z h
  unfold b_Y_withinTagged_104 at h
  refine x_iinc (v := 1) (lv' := [(7, .inl (x7 + 1)), (0, .inr (.inr x0)), (3, .inl x3), (4, .inl x4), (6, .inl x6), (9, .inl x9), (10, .inr (.inr x10))]) 4 d_Y_withinTagged_104 rfl (by decide) (by decide) rfl ?_
  refine x_ls [1, 2, 3, 4, 0, 5, 6] rfl ?_
  exact tb_Y_withinTagged_107 hk35 x0 x3 x4 x6 (x7 + 1) x9 x10 S _ h
set_option maxRecDepth 100000 in
set_option maxHeartbeats 4000000 in
theorem tb_Y_withinTagged_35 {D : xD} {d : Nat} {S0 : xS} {k35 : Option Nat → Int32 → Int32 → Int32 → Int32 → Option Nat → Int32 → xS → Option (Int32 × xS)} (hk35 : ∀ (x0 : Option Nat) (x3 : Int32) (x4 : Int32) (x6 : Int32) (x7 : Int32) (x8 : Option Nat) (x9 : Int32)  (S : xS) (z : Int32 × xS), k35 x0 x3 x4 x6 x7 x8 x9 S = some z → V m_Y_withinTagged D (d + 1) S0 (cvI z) 35 [(0, .inr (.inr x0)), (3, .inl x3), (4, .inl x4), (6, .inl x6), (7, .inl x7), (8, .inr (.inr x8)), (9, .inl x9)] [] S) : ∀ (x0 : Option Nat) (x3 : Int32) (x4 : Int32) (x6 : Int32) (x7 : Int32) (x8 : Option Nat) (x9 : Int32) (S : xS) (z : Int32 × xS), b_Y_withinTagged_35 d k35 x0 x3 x4 x6 x7 x8 x9 S = some z → V m_Y_withinTagged D (d + 1) S0 (cvI z) 35 [(0, .inr (.inr x0)), (3, .inl x3), (4, .inl x4), (6, .inl x6), (7, .inl x7), (8, .inr (.inr x8)), (9, .inl x9)] [] S := by
  intro x0 x3 x4 x6 x7 x8 x9 S z h
  unfold b_Y_withinTagged_35 at h
  refine x_iload 6 d_Y_withinTagged_35 rfl ?_
  refine x_iload 3 d_Y_withinTagged_37 rfl ?_
  refine x_icmp_gt (tgt := 117) d_Y_withinTagged_39 (by decide) h (fun h => ?_) (fun h => ?_)
  · refine x_iload 4 d_Y_withinTagged_117 rfl ?_
    cases h
    exact x_iret rfl d_Y_withinTagged_119
  · refine x_aload_n 0 d_Y_withinTagged_42 rfl rfl ?_
    refine x_iload 6 d_Y_withinTagged_43 rfl ?_
    refine x_callS' (M' := m_R_numbered) (ax := [.inr (.inr x0), .inl x9]) (cv := cvR) (host := (some "PieceTexts")) (st := []) h (fun q h l => s_R_numbered d x0 x9 S q h l D) rfl d_Y_withinTagged_45 wm_Y_49 wc_R_numbered rfl (Nat.le_of_ble_eq_true rfl) (fun q1 h => ?_)
    show V _ _ _ _ _ _ _ (va_rf q1.1 :: []) _
    refine x_astore (lv' := [(10, .inr (.inr q1.1)), (0, .inr (.inr x0)), (3, .inl x3), (4, .inl x4), (6, .inl x6), (7, .inl x7), (8, .inr (.inr x8)), (9, .inl x9)]) d_Y_withinTagged_48 (by decide) rfl ?_
    refine x_aload 6 d_Y_withinTagged_50 rfl ?_
    refine x_ifnull (tgt := 104) d_Y_withinTagged_52 (by decide) h (fun _ h => ?_) (fun _ _ h => ?_)
    · refine x_ls [1, 2, 3, 4, 5, 7, 0] rfl ?_
      exact tb_Y_withinTagged_104 hk35 x0 x3 x4 x6 x7 x9 q1.1 q1.2 _ h
    · refine x_aload 0 d_Y_withinTagged_55 rfl ?_
      refine x_ifnull (tgt := 104) d_Y_withinTagged_57 (by decide) h (fun _ h => ?_) (fun _ _ h => ?_)
      · refine x_ls [1, 2, 3, 4, 5, 7, 0] rfl ?_
        exact tb_Y_withinTagged_104 hk35 x0 x3 x4 x6 x7 x9 q1.1 q1.2 _ h
      · refine x_aload 6 d_Y_withinTagged_60 rfl ?_
        refine x_getI (host := (some "PieceTexts")) h hc_2 hi_2 (by decide) wf_Y_53 d_Y_withinTagged_62 (fun v4 h => ?_)
        refine x_aload 6 d_Y_withinTagged_65 rfl ?_
        refine x_getI (host := (some "PieceTexts")) h hc_2 hi_2 (by decide) wf_Y_59 d_Y_withinTagged_67 (fun v5 h => ?_)
        refine x_iadd d_Y_withinTagged_70 ?_
        refine x_aload 0 d_Y_withinTagged_71 rfl ?_
        refine x_getI (host := (some "PieceTexts")) h hc_2 hi_2 (by decide) wf_Y_53 d_Y_withinTagged_73 (fun v6 h => ?_)
        refine x_icmp_ne (tgt := 104) d_Y_withinTagged_76 (by decide) h (fun h => ?_) (fun h => ?_)
        · refine x_ls [1, 2, 3, 4, 5, 7, 0] rfl ?_
          exact tb_Y_withinTagged_104 hk35 x0 x3 x4 x6 x7 x9 q1.1 q1.2 _ h
        · refine x_aload 6 d_Y_withinTagged_79 rfl ?_
          refine x_getI (host := (some "PieceTexts")) h hc_2 hi_2 (by decide) wf_Y_62 d_Y_withinTagged_81 (fun v7 h => ?_)
          refine x_iload_n 2 d_Y_withinTagged_84 rfl rfl ?_
          refine x_iload 3 d_Y_withinTagged_85 rfl ?_
          refine x_callS' (M' := m_Y_tagged) (ax := [.inl v7, .inl x3, .inl x4]) (cv := cvI) (host := none) (st := []) h (fun q h l => s_Y_tagged d v7 x3 x4 q1.2 q h l D) rfl d_Y_withinTagged_87 wm_Y_38 wc_Y_tagged rfl (Nat.le_of_ble_eq_true rfl) (fun q8 h => ?_)
          show V _ _ _ _ _ _ _ (.int q8.1 :: []) _
          refine x_aload 0 d_Y_withinTagged_90 rfl ?_
          refine x_getI (host := (some "PieceTexts")) h hc_2 hi_2 (by decide) wf_Y_62 d_Y_withinTagged_92 (fun v9 h => ?_)
          refine x_iload_n 2 d_Y_withinTagged_95 rfl rfl ?_
          refine x_iload 3 d_Y_withinTagged_96 rfl ?_
          refine x_callS' (M' := m_Y_tagged) (ax := [.inl v9, .inl x3, .inl x4]) (cv := cvI) (host := none) (st := [.int q8.1]) h (fun q h l => s_Y_tagged d v9 x3 x4 q8.2 q h l D) rfl d_Y_withinTagged_98 wm_Y_38 wc_Y_tagged rfl (Nat.le_of_ble_eq_true rfl) (fun q10 h => ?_)
          show V _ _ _ _ _ _ _ (.int q10.1 :: .int q8.1 :: []) _
          refine x_icmp_eq (tgt := 107) d_Y_withinTagged_101 (by decide) h (fun h => ?_) (fun h => ?_)
          · refine x_ls [1, 2, 3, 4, 5, 7, 0] rfl ?_
            exact tb_Y_withinTagged_107 hk35 x0 x3 x4 x6 x7 x9 q1.1 q10.2 _ h
          · refine x_ls [1, 2, 3, 4, 5, 7, 0] rfl ?_
            exact tb_Y_withinTagged_104 hk35 x0 x3 x4 x6 x7 x9 q1.1 q10.2 _ h
theorem tl_Y_withinTagged_35 {D : xD} {d : Nat} {S0 : xS} : ∀ (n : Nat) (x0 : Option Nat) (x3 : Int32) (x4 : Int32) (x6 : Int32) (x7 : Int32) (x8 : Option Nat) (x9 : Int32) (S : xS) (z : Int32 × xS), l_Y_withinTagged_35 d n x0 x3 x4 x6 x7 x8 x9 S = some z → V m_Y_withinTagged D (d + 1) S0 (cvI z) 35 [(0, .inr (.inr x0)), (3, .inl x3), (4, .inl x4), (6, .inl x6), (7, .inl x7), (8, .inr (.inr x8)), (9, .inl x9)] [] S := by
  intro n
  induction n with
  | zero =>
    intro x0 x3 x4 x6 x7 x8 x9 S z h
    cases h
  | succ n ih =>
    intro x0 x3 x4 x6 x7 x8 x9 S z h
    exact tb_Y_withinTagged_35  ih x0 x3 x4 x6 x7 x8 x9 S z h
set_option maxRecDepth 100000 in
set_option maxHeartbeats 4000000 in
theorem te_Y_withinTagged {D : xD} {d : Nat} {S0 : xS} : ∀ (p0 : Option Nat) (p1 : Int32) (p2 : Int32) (p3 : Int32) (p4 : Int32) (S : xS) (z : Int32 × xS), e_Y_withinTagged d p0 p1 p2 p3 p4 S = some z → V m_Y_withinTagged D (d + 1) S0 (cvI z) 0 [(0, .inr (.inr p0)), (1, .inl p1), (2, .inl p2), (3, .inl p3), (4, .inl p4)] [] S := by
  intro p0 p1 p2 p3 p4 S z h
  unfold e_Y_withinTagged at h
  refine x_aload_n 0 d_Y_withinTagged_0 rfl rfl ?_
  refine x_iload_n 1 d_Y_withinTagged_1 rfl rfl ?_
  refine x_callS' (M' := m_R_orderAt) (ax := [.inr (.inr p0), .inl p1]) (cv := cvI) (host := (some "PieceTexts")) (st := []) h (fun q h l => s_R_orderAt d p0 p1 S q h l D) rfl d_Y_withinTagged_2 wm_Y_46 wc_R_orderAt rfl (Nat.le_of_ble_eq_true rfl) (fun q1 h => ?_)
  show V _ _ _ _ _ _ _ (.int q1.1 :: []) _
  refine x_istore (lv' := [(5, .inl q1.1), (0, .inr (.inr p0)), (1, .inl p1), (2, .inl p2), (3, .inl p3), (4, .inl p4)]) d_Y_withinTagged_5 (by decide) rfl ?_
  refine x_aload_n 1 d_Y_withinTagged_7 rfl rfl ?_
  refine x_iload_n 2 d_Y_withinTagged_8 rfl rfl ?_
  refine x_iload_n 3 d_Y_withinTagged_9 rfl rfl ?_
  refine x_iadd d_Y_withinTagged_10 ?_
  refine x_iconst (v := 1) d_Y_withinTagged_11 (by decide) ?_
  refine x_isub d_Y_withinTagged_12 ?_
  refine x_callS' (M' := m_R_orderAt) (ax := [.inr (.inr p0), .inl ((p1 + p2) - 1)]) (cv := cvI) (host := (some "PieceTexts")) (st := []) h (fun q h l => s_R_orderAt d p0 ((p1 + p2) - 1) q1.2 q h l D) rfl d_Y_withinTagged_13 wm_Y_46 wc_R_orderAt rfl (Nat.le_of_ble_eq_true rfl) (fun q2 h => ?_)
  show V _ _ _ _ _ _ _ (.int q2.1 :: []) _
  refine x_istore (lv' := [(6, .inl q2.1), (5, .inl q1.1), (0, .inr (.inr p0)), (1, .inl p1), (2, .inl p2), (3, .inl p3), (4, .inl p4)]) d_Y_withinTagged_16 (by decide) rfl ?_
  refine x_iconst (v := 1) d_Y_withinTagged_18 (by decide) ?_
  refine x_istore (lv' := [(7, .inl 1), (6, .inl q2.1), (5, .inl q1.1), (0, .inr (.inr p0)), (1, .inl p1), (2, .inl p2), (3, .inl p3), (4, .inl p4)]) d_Y_withinTagged_19 (by decide) rfl ?_
  refine x_aload_n 3 d_Y_withinTagged_21 rfl rfl ?_
  refine x_iload 2 d_Y_withinTagged_22 rfl ?_
  refine x_callS' (M' := m_R_numbered) (ax := [.inr (.inr p0), .inl q1.1]) (cv := cvR) (host := (some "PieceTexts")) (st := []) h (fun q h l => s_R_numbered d p0 q1.1 q2.2 q h l D) rfl d_Y_withinTagged_24 wm_Y_49 wc_R_numbered rfl (Nat.le_of_ble_eq_true rfl) (fun q3 h => ?_)
  show V _ _ _ _ _ _ _ (va_rf q3.1 :: []) _
  refine x_astore (lv' := [(8, .inr (.inr q3.1)), (7, .inl 1), (6, .inl q2.1), (5, .inl q1.1), (0, .inr (.inr p0)), (1, .inl p1), (2, .inl p2), (3, .inl p3), (4, .inl p4)]) d_Y_withinTagged_27 (by decide) rfl ?_
  refine x_iload 3 d_Y_withinTagged_29 rfl ?_
  refine x_iconst (v := 1) d_Y_withinTagged_31 (by decide) ?_
  refine x_iadd d_Y_withinTagged_32 ?_
  refine x_istore (lv' := [(9, .inl (q1.1 + 1)), (8, .inr (.inr q3.1)), (7, .inl 1), (6, .inl q2.1), (5, .inl q1.1), (0, .inr (.inr p0)), (1, .inl p1), (2, .inl p2), (3, .inl p3), (4, .inl p4)]) d_Y_withinTagged_33 (by decide) rfl ?_
  refine x_ls [5, 8, 9, 3, 2, 1, 0] rfl ?_
  exact tl_Y_withinTagged_35 xN p0 p3 p4 q2.1 1 q3.1 (q1.1 + 1) q3.2 _ h
theorem s_Y_withinTagged : ∀ (d : Nat) (p0 : Option Nat) (p1 : Int32) (p2 : Int32) (p3 : Int32) (p4 : Int32) (S : xS) (z : Int32 × xS), f_Y_withinTagged d p0 p1 p2 p3 p4 S = some z → ∀ (l : Launch) (D : xD), xMet l m_Y_withinTagged D d [.inr (.inr p0), .inl p1, .inl p2, .inl p3, .inl p4] S (cvI z) := by
  intro d
  induction d with
  | zero =>
    intro p0 p1 p2 p3 p4 S z h
    cases h
  | succ d ih =>
    intro p0 p1 p2 p3 p4 S z h l D
    exact x_ofV rfl (by decide) (Nat.le_of_ble_eq_true rfl) (te_Y_withinTagged  p0 p1 p2 p3 p4 S z h)
set_option maxRecDepth 100000 in
set_option maxHeartbeats 4000000 in
theorem te_Y_afterTag {D : xD} {d : Nat} {S0 : xS} : ∀ (p0 : Option Nat) (p1 : Int32) (p2 : Int32) (p3 : Int32) (p4 : Int32) (S : xS) (z : Int32 × xS), e_Y_afterTag d p0 p1 p2 p3 p4 S = some z → V m_Y_afterTag D (d + 1) S0 (cvI z) 0 [(0, .inr (.inr p0)), (1, .inl p1), (2, .inl p2), (3, .inl p3), (4, .inl p4)] [] S := by
  intro p0 p1 p2 p3 p4 S z h
  unfold e_Y_afterTag at h
  refine x_iload_n 2 d_Y_afterTag_0 rfl rfl ?_
  refine x_iconst (v := 1) d_Y_afterTag_1 (by decide) ?_
  refine x_icmp_ge (tgt := 10) d_Y_afterTag_2 (by decide) h (fun h => ?_) (fun h => ?_)
  · refine x_iload_n 1 d_Y_afterTag_10 rfl rfl ?_
    refine x_iload_n 2 d_Y_afterTag_11 rfl rfl ?_
    refine x_iadd d_Y_afterTag_12 ?_
    refine x_iconst (v := 1) d_Y_afterTag_13 (by decide) ?_
    refine x_isub d_Y_afterTag_14 ?_
    refine x_istore (lv' := [(5, .inl ((p1 + p2) - 1)), (0, .inr (.inr p0)), (1, .inl p1), (2, .inl p2), (3, .inl p3), (4, .inl p4)]) d_Y_afterTag_15 (by decide) rfl ?_
    refine x_aload_n 1 d_Y_afterTag_17 rfl rfl ?_
    refine x_iload_n 2 d_Y_afterTag_18 rfl rfl ?_
    refine x_callS' (M' := m_R_tagAt) (ax := [.inr (.inr p0), .inl p1]) (cv := cvI) (host := (some "PieceTexts")) (st := []) h (fun q h l => s_R_tagAt d p0 p1 S q h l D) rfl d_Y_afterTag_19 wm_Y_32 wc_R_tagAt rfl (Nat.le_of_ble_eq_true rfl) (fun q1 h => ?_)
    show V _ _ _ _ _ _ _ (.int q1.1 :: []) _
    refine x_iload_n 4 d_Y_afterTag_22 rfl rfl ?_
    refine x_iload 5 d_Y_afterTag_23 rfl ?_
    refine x_callS' (M' := m_Y_tagged) (ax := [.inl q1.1, .inl p3, .inl p4]) (cv := cvI) (host := none) (st := []) h (fun q h l => s_Y_tagged d q1.1 p3 p4 q1.2 q h l D) rfl d_Y_afterTag_25 wm_Y_38 wc_Y_tagged rfl (Nat.le_of_ble_eq_true rfl) (fun q2 h => ?_)
    show V _ _ _ _ _ _ _ (.int q2.1 :: []) _
    refine x_istore (lv' := [(6, .inl q2.1), (5, .inl ((p1 + p2) - 1)), (0, .inr (.inr p0)), (1, .inl p1), (2, .inl p2), (3, .inl p3), (4, .inl p4)]) d_Y_afterTag_28 (by decide) rfl ?_
    refine x_aload_n 2 d_Y_afterTag_30 rfl rfl ?_
    refine x_iload 1 d_Y_afterTag_31 rfl ?_
    refine x_callS' (M' := m_R_tagAt) (ax := [.inr (.inr p0), .inl ((p1 + p2) - 1)]) (cv := cvI) (host := (some "PieceTexts")) (st := []) h (fun q h l => s_R_tagAt d p0 ((p1 + p2) - 1) q2.2 q h l D) rfl d_Y_afterTag_33 wm_Y_32 wc_R_tagAt rfl (Nat.le_of_ble_eq_true rfl) (fun q3 h => ?_)
    show V _ _ _ _ _ _ _ (.int q3.1 :: []) _
    refine x_iload_n 5 d_Y_afterTag_36 rfl rfl ?_
    refine x_iload 6 d_Y_afterTag_37 rfl ?_
    refine x_callS' (M' := m_Y_tagged) (ax := [.inl q3.1, .inl p3, .inl p4]) (cv := cvI) (host := none) (st := []) h (fun q h l => s_Y_tagged d q3.1 p3 p4 q3.2 q h l D) rfl d_Y_afterTag_39 wm_Y_38 wc_Y_tagged rfl (Nat.le_of_ble_eq_true rfl) (fun q4 h => ?_)
    show V _ _ _ _ _ _ _ (.int q4.1 :: []) _
    refine x_istore (lv' := [(7, .inl q4.1), (6, .inl q2.1), (5, .inl ((p1 + p2) - 1)), (0, .inr (.inr p0)), (1, .inl p1), (2, .inl p2), (3, .inl p3), (4, .inl p4)]) d_Y_afterTag_42 (by decide) rfl ?_
    refine x_aload_n 3 d_Y_afterTag_44 rfl rfl ?_
    refine x_iload_n 4 d_Y_afterTag_45 rfl rfl ?_
    refine x_callS' (M' := m_Y_before) (ax := [.inr (.inr p0), .inl p1]) (cv := cvI) (host := none) (st := []) h (fun q h l => s_Y_before d p0 p1 q4.2 q h l D) rfl d_Y_afterTag_46 wm_Y_7 wc_Y_before rfl (Nat.le_of_ble_eq_true rfl) (fun q5 h => ?_)
    show V _ _ _ _ _ _ _ (.int q5.1 :: []) _
    refine x_aload_n 3 d_Y_afterTag_49 rfl rfl ?_
    refine x_iload_n 4 d_Y_afterTag_50 rfl rfl ?_
    refine x_iload_n 5 d_Y_afterTag_51 rfl rfl ?_
    refine x_iload_n 6 d_Y_afterTag_52 rfl rfl ?_
    refine x_iload 7 d_Y_afterTag_53 rfl ?_
    refine x_callS' (M' := m_Y_withinTagged) (ax := [.inr (.inr p0), .inl p1, .inl p2, .inl p3, .inl p4]) (cv := cvI) (host := none) (st := [.int q5.1]) h (fun q h l => s_Y_withinTagged d p0 p1 p2 p3 p4 q5.2 q h l D) rfl d_Y_afterTag_55 wm_Y_42 wc_Y_withinTagged rfl (Nat.le_of_ble_eq_true rfl) (fun q6 h => ?_)
    show V _ _ _ _ _ _ _ (.int q6.1 :: .int q5.1 :: []) _
    refine x_iadd d_Y_afterTag_58 ?_
    refine x_aload_n 3 d_Y_afterTag_59 rfl rfl ?_
    refine x_iload_n 4 d_Y_afterTag_60 rfl rfl ?_
    refine x_iload_n 5 d_Y_afterTag_61 rfl rfl ?_
    refine x_iadd d_Y_afterTag_62 ?_
    refine x_callS' (M' := m_Y_behind) (ax := [.inr (.inr p0), .inl (p1 + p2)]) (cv := cvI) (host := none) (st := [.int (q5.1 + q6.1)]) h (fun q h l => s_Y_behind d p0 (p1 + p2) q6.2 q h l D) rfl d_Y_afterTag_63 wm_Y_13 wc_Y_behind rfl (Nat.le_of_ble_eq_true rfl) (fun q7 h => ?_)
    show V _ _ _ _ _ _ _ (.int q7.1 :: .int (q5.1 + q6.1) :: []) _
    refine x_iadd d_Y_afterTag_66 ?_
    refine x_aload_n 3 d_Y_afterTag_67 rfl rfl ?_
    refine x_iload_n 4 d_Y_afterTag_68 rfl rfl ?_
    refine x_aload_n 3 d_Y_afterTag_69 rfl rfl ?_
    refine x_iload_n 4 d_Y_afterTag_70 rfl rfl ?_
    refine x_callS' (M' := m_R_sourceAt) (ax := [.inr (.inr p0), .inl p1]) (cv := cvI) (host := (some "PieceTexts")) (st := [.int p1, va_rf p0, .int ((q5.1 + q6.1) + q7.1)]) h (fun q h l => s_R_sourceAt d p0 p1 q7.2 q h l D) rfl d_Y_afterTag_71 wm_Y_29 wc_R_sourceAt rfl (Nat.le_of_ble_eq_true rfl) (fun q8 h => ?_)
    show V _ _ _ _ _ _ _ (.int q8.1 :: .int p1 :: va_rf p0 :: .int ((q5.1 + q6.1) + q7.1) :: []) _
    refine x_iload 1 d_Y_afterTag_74 rfl ?_
    refine x_callS' (M' := m_Y_meldsLeft) (ax := [.inr (.inr p0), .inl p1, .inl q8.1, .inl q2.1]) (cv := cvI) (host := none) (st := [.int ((q5.1 + q6.1) + q7.1)]) h (fun q h l => s_Y_meldsLeft d p0 p1 q8.1 q2.1 q8.2 q h l D) rfl d_Y_afterTag_76 wm_Y_16 wc_Y_meldsLeft rfl (Nat.le_of_ble_eq_true rfl) (fun q9 h => ?_)
    show V _ _ _ _ _ _ _ (.int q9.1 :: .int ((q5.1 + q6.1) + q7.1) :: []) _
    refine x_isub d_Y_afterTag_79 ?_
    refine x_aload_n 3 d_Y_afterTag_80 rfl rfl ?_
    refine x_iload_n 4 d_Y_afterTag_81 rfl rfl ?_
    refine x_iload_n 5 d_Y_afterTag_82 rfl rfl ?_
    refine x_iadd d_Y_afterTag_83 ?_
    refine x_aload_n 3 d_Y_afterTag_84 rfl rfl ?_
    refine x_iload 2 d_Y_afterTag_85 rfl ?_
    refine x_callS' (M' := m_R_sourceAt) (ax := [.inr (.inr p0), .inl ((p1 + p2) - 1)]) (cv := cvI) (host := (some "PieceTexts")) (st := [.int (p1 + p2), va_rf p0, .int (((q5.1 + q6.1) + q7.1) - q9.1)]) h (fun q h l => s_R_sourceAt d p0 ((p1 + p2) - 1) q9.2 q h l D) rfl d_Y_afterTag_87 wm_Y_29 wc_R_sourceAt rfl (Nat.le_of_ble_eq_true rfl) (fun q10 h => ?_)
    show V _ _ _ _ _ _ _ (.int q10.1 :: .int (p1 + p2) :: va_rf p0 :: .int (((q5.1 + q6.1) + q7.1) - q9.1) :: []) _
    refine x_iload 0 d_Y_afterTag_90 rfl ?_
    refine x_callS' (M' := m_Y_meldsRight) (ax := [.inr (.inr p0), .inl (p1 + p2), .inl q10.1, .inl q4.1]) (cv := cvI) (host := none) (st := [.int (((q5.1 + q6.1) + q7.1) - q9.1)]) h (fun q h l => s_Y_meldsRight d p0 (p1 + p2) q10.1 q4.1 q10.2 q h l D) rfl d_Y_afterTag_92 wm_Y_20 wc_Y_meldsRight rfl (Nat.le_of_ble_eq_true rfl) (fun q11 h => ?_)
    show V _ _ _ _ _ _ _ (.int q11.1 :: .int (((q5.1 + q6.1) + q7.1) - q9.1) :: []) _
    refine x_isub d_Y_afterTag_95 ?_
    cases h
    exact x_iret rfl d_Y_afterTag_96
  · refine x_aload_n 0 d_Y_afterTag_5 rfl rfl ?_
    refine x_callS' (M' := m_R_piecesOf) (ax := [.inr (.inr p0)]) (cv := cvI) (host := (some "PieceTexts")) (st := []) h (fun q h l => s_R_piecesOf d p0 S q h l D) rfl d_Y_afterTag_6 wm_Y_35 wc_R_piecesOf rfl (Nat.le_of_ble_eq_true rfl) (fun q12 h => ?_)
    show V _ _ _ _ _ _ _ (.int q12.1 :: []) _
    cases h
    exact x_iret rfl d_Y_afterTag_9
theorem s_Y_afterTag : ∀ (d : Nat) (p0 : Option Nat) (p1 : Int32) (p2 : Int32) (p3 : Int32) (p4 : Int32) (S : xS) (z : Int32 × xS), f_Y_afterTag d p0 p1 p2 p3 p4 S = some z → ∀ (l : Launch) (D : xD), xMet l m_Y_afterTag D d [.inr (.inr p0), .inl p1, .inl p2, .inl p3, .inl p4] S (cvI z) := by
  intro d
  induction d with
  | zero =>
    intro p0 p1 p2 p3 p4 S z h
    cases h
  | succ d ih =>
    intro p0 p1 p2 p3 p4 S z h l D
    exact x_ofV rfl (by decide) (Nat.le_of_ble_eq_true rfl) (te_Y_afterTag  p0 p1 p2 p3 p4 S z h)
set_option maxRecDepth 100000 in
set_option maxHeartbeats 4000000 in
theorem te_D_init {D : xD} {d : Nat} {S0 : xS} : ∀ (p0 : Option Nat) (p1 : Option Nat) (p2 : Int32) (S : xS) (z : Unit × xS), e_D_init d p0 p1 p2 S = some z → V m_D_init D (d + 1) S0 (cvV z) 0 [(0, .inr (.inr p0)), (1, .inr (.inr p1)), (2, .inl p2)] [] S := by
  intro p0 p1 p2 S z h
  unfold e_D_init at h
  refine x_aload_n 0 d_D_init_0 rfl rfl ?_
  refine x_objInit' h d_D_init_1 wO_D_1 w_objI w_objC (Nat.le_of_ble_eq_true rfl) (fun h => ?_)
  refine x_aload_n 0 d_D_init_4 rfl rfl ?_
  refine x_aload_n 1 d_D_init_5 rfl rfl ?_
  refine x_putF h hc_3 hi_3 tyX_3 ht_3 hn_3 (by decide) rfl rfl rfl (xnar_o _ _) (xfit_o _ _) wf_D_7p d_D_init_6 (fun S1 h => ?_)
  refine x_aload_n 0 d_D_init_9 rfl rfl ?_
  refine x_aload_n 1 d_D_init_10 rfl rfl ?_
  refine x_iload_n 2 d_D_init_11 rfl rfl ?_
  refine x_callS' (M' := m_R_orderAt) (ax := [.inr (.inr p1), .inl p2]) (cv := cvI) (host := (some "PieceTexts")) (st := [va_rf p0]) h (fun q h l => s_R_orderAt d p1 p2 S1 q h l D) rfl d_D_init_12 wm_D_13 wc_R_orderAt rfl (Nat.le_of_ble_eq_true rfl) (fun q2 h => ?_)
  show V _ _ _ _ _ _ _ (.int q2.1 :: va_rf p0 :: []) _
  refine x_put (host := none) h hc_3 hi_3 tyX_3 ht_3 hn_3 (by decide) rfl rfl rfl wf_D_19 d_D_init_15 (fun S3 h => ?_)
  refine x_aload_n 0 d_D_init_18 rfl rfl ?_
  refine x_aload_n 1 d_D_init_19 rfl rfl ?_
  refine x_aload_n 0 d_D_init_20 rfl rfl ?_
  refine x_getI (host := none) h hc_3 hi_3 (by decide) wf_D_19 d_D_init_21 (fun v4 h => ?_)
  refine x_callS' (M' := m_R_numbered) (ax := [.inr (.inr p1), .inl v4]) (cv := cvR) (host := (some "PieceTexts")) (st := [va_rf p0]) h (fun q h l => s_R_numbered d p1 v4 S3 q h l D) rfl d_D_init_24 wm_D_23 wc_R_numbered rfl (Nat.le_of_ble_eq_true rfl) (fun q5 h => ?_)
  show V _ _ _ _ _ _ _ (va_rf q5.1 :: va_rf p0 :: []) _
  refine x_put (host := none) h hc_3 hi_3 tyX_3 ht_3 hn_3 (by decide) rfl (xnar_o _ _) (xfit_o _ _) wf_D_27 d_D_init_27 (fun S6 h => ?_)
  refine x_aload_n 0 d_D_init_30 rfl rfl ?_
  refine x_iload_n 2 d_D_init_31 rfl rfl ?_
  refine x_aload_n 1 d_D_init_32 rfl rfl ?_
  refine x_aload_n 0 d_D_init_33 rfl rfl ?_
  refine x_getI (host := none) h hc_3 hi_3 (by decide) wf_D_19 d_D_init_34 (fun v7 h => ?_)
  refine x_callS' (M' := m_R_startOf) (ax := [.inr (.inr p1), .inl v7]) (cv := cvI) (host := (some "PieceTexts")) (st := [.int p2, va_rf p0]) h (fun q h l => s_R_startOf d p1 v7 S6 q h l D) rfl d_D_init_37 wm_D_30 wc_R_startOf rfl (Nat.le_of_ble_eq_true rfl) (fun q8 h => ?_)
  show V _ _ _ _ _ _ _ (.int q8.1 :: .int p2 :: va_rf p0 :: []) _
  refine x_isub d_D_init_40 ?_
  refine x_put (host := none) h hc_3 hi_3 tyX_3 ht_3 hn_3 (by decide) rfl rfl rfl wf_D_33 d_D_init_41 (fun S9 h => ?_)
  cases h
  exact x_vret rfl d_D_init_44
theorem s_D_init : ∀ (d : Nat) (p0 : Option Nat) (p1 : Option Nat) (p2 : Int32) (S : xS) (z : Unit × xS), f_D_init d p0 p1 p2 S = some z → ∀ (l : Launch) (D : xD), xMet l m_D_init D d [.inr (.inr p0), .inr (.inr p1), .inl p2] S (cvV z) := by
  intro d
  induction d with
  | zero =>
    intro p0 p1 p2 S z h
    cases h
  | succ d ih =>
    intro p0 p1 p2 S z h l D
    exact x_ofV rfl (by decide) (Nat.le_of_ble_eq_true rfl) (te_D_init  p0 p1 p2 S z h)
set_option maxRecDepth 100000 in
set_option maxHeartbeats 4000000 in
theorem tb_D_nextSource_76 {D : xD} {d : Nat} {S0 : xS} : ∀ (x1 : Int32) (S : xS) (z : Int32 × xS), b_D_nextSource_76 d x1 S = some z → V m_D_nextSource D (d + 1) S0 (cvI z) 76 [(1, .inl x1)] [] S := by
  intro x1 S z h
  unfold b_D_nextSource_76 at h
  refine x_iload_n 0 d_D_nextSource_76 rfl rfl ?_
  cases h
  exact x_iret rfl d_D_nextSource_77
set_option maxRecDepth 100000 in
set_option maxHeartbeats 4000000 in
theorem te_D_nextSource {D : xD} {d : Nat} {S0 : xS} : ∀ (p0 : Option Nat) (S : xS) (z : Int32 × xS), e_D_nextSource d p0 S = some z → V m_D_nextSource D (d + 1) S0 (cvI z) 0 [(0, .inr (.inr p0))] [] S := by
  intro p0 S z h
  unfold e_D_nextSource at h
  refine x_aload_n 0 d_D_nextSource_0 rfl rfl ?_
  refine x_getR (host := none) h hc_3 hi_3 (by decide) wf_D_27 d_D_nextSource_1 (fun v1 h => ?_)
  refine x_ifnonnull (tgt := 9) d_D_nextSource_4 (by decide) h (fun _ _ h => ?_) (fun _ h => ?_)
  · refine x_aload_n 0 d_D_nextSource_9 rfl rfl ?_
    refine x_getR (host := none) h hc_3 hi_3 (by decide) wf_D_27 d_D_nextSource_10 (fun v3 h => ?_)
    refine x_getI (host := (some "PieceTexts")) h hc_2 hi_2 (by decide) wf_D_36 d_D_nextSource_13 (fun v4 h => ?_)
    refine x_aload_n 0 d_D_nextSource_16 rfl rfl ?_
    refine x_getI (host := none) h hc_3 hi_3 (by decide) wf_D_33 d_D_nextSource_17 (fun v5 h => ?_)
    refine x_iadd d_D_nextSource_20 ?_
    refine x_istore_n (lv' := [(1, .inl (v4 + v5)), (0, .inr (.inr p0))]) d_D_nextSource_21 rfl (by decide) rfl ?_
    refine x_aload_n 1 d_D_nextSource_22 rfl rfl ?_
    refine x_dup d_D_nextSource_23 (xcat _) ?_
    refine x_getI (host := none) h hc_3 hi_3 (by decide) wf_D_33 d_D_nextSource_24 (fun v6 h => ?_)
    refine x_iconst (v := 1) d_D_nextSource_27 (by decide) ?_
    refine x_iadd d_D_nextSource_28 ?_
    refine x_put (host := none) h hc_3 hi_3 tyX_3 ht_3 hn_3 (by decide) rfl rfl rfl wf_D_33 d_D_nextSource_29 (fun S7 h => ?_)
    refine x_aload_n 1 d_D_nextSource_32 rfl rfl ?_
    refine x_getI (host := none) h hc_3 hi_3 (by decide) wf_D_33 d_D_nextSource_33 (fun v8 h => ?_)
    refine x_aload_n 1 d_D_nextSource_36 rfl rfl ?_
    refine x_getR (host := none) h hc_3 hi_3 (by decide) wf_D_27 d_D_nextSource_37 (fun v9 h => ?_)
    refine x_getI (host := (some "PieceTexts")) h hc_2 hi_2 (by decide) wf_D_41 d_D_nextSource_40 (fun v10 h => ?_)
    refine x_icmp_lt (tgt := 76) d_D_nextSource_43 (by decide) h (fun h => ?_) (fun h => ?_)
    · refine x_ls [0] rfl ?_
      exact tb_D_nextSource_76 (v4 + v5) S7 _ h
    · refine x_aload_n 1 d_D_nextSource_46 rfl rfl ?_
      refine x_dup d_D_nextSource_47 (xcat _) ?_
      refine x_getI (host := none) h hc_3 hi_3 (by decide) wf_D_19 d_D_nextSource_48 (fun v11 h => ?_)
      refine x_iconst (v := 1) d_D_nextSource_51 (by decide) ?_
      refine x_iadd d_D_nextSource_52 ?_
      refine x_put (host := none) h hc_3 hi_3 tyX_3 ht_3 hn_3 (by decide) rfl rfl rfl wf_D_19 d_D_nextSource_53 (fun S12 h => ?_)
      refine x_aload_n 1 d_D_nextSource_56 rfl rfl ?_
      refine x_aload_n 1 d_D_nextSource_57 rfl rfl ?_
      refine x_getR (host := none) h hc_3 hi_3 (by decide) wf_D_7 d_D_nextSource_58 (fun v13 h => ?_)
      refine x_aload_n 1 d_D_nextSource_61 rfl rfl ?_
      refine x_getI (host := none) h hc_3 hi_3 (by decide) wf_D_19 d_D_nextSource_62 (fun v14 h => ?_)
      refine x_callS' (M' := m_R_numbered) (ax := [.inr (.inr v13), .inl v14]) (cv := cvR) (host := (some "PieceTexts")) (st := [va_rf p0]) h (fun q h l => s_R_numbered d v13 v14 S12 q h l D) rfl d_D_nextSource_65 wm_D_23 wc_R_numbered rfl (Nat.le_of_ble_eq_true rfl) (fun q15 h => ?_)
      show V _ _ _ _ _ _ _ (va_rf q15.1 :: va_rf p0 :: []) _
      refine x_put (host := none) h hc_3 hi_3 tyX_3 ht_3 hn_3 (by decide) rfl (xnar_o _ _) (xfit_o _ _) wf_D_27 d_D_nextSource_68 (fun S16 h => ?_)
      refine x_aload_n 1 d_D_nextSource_71 rfl rfl ?_
      refine x_iconst (v := 0) d_D_nextSource_72 (by decide) ?_
      refine x_put (host := none) h hc_3 hi_3 tyX_3 ht_3 hn_3 (by decide) rfl rfl rfl wf_D_33 d_D_nextSource_73 (fun S17 h => ?_)
      refine x_ls [0] rfl ?_
      exact tb_D_nextSource_76 (v4 + v5) S17 _ h
  · refine x_iconst (v := (-1)) d_D_nextSource_7 (by decide) ?_
    cases h
    exact x_iret rfl d_D_nextSource_8
theorem s_D_nextSource : ∀ (d : Nat) (p0 : Option Nat) (S : xS) (z : Int32 × xS), f_D_nextSource d p0 S = some z → ∀ (l : Launch) (D : xD), xMet l m_D_nextSource D d [.inr (.inr p0)] S (cvI z) := by
  intro d
  induction d with
  | zero =>
    intro p0 S z h
    cases h
  | succ d ih =>
    intro p0 S z h l D
    exact x_ofV rfl (by decide) (Nat.le_of_ble_eq_true rfl) (te_D_nextSource  p0 S z h)
set_option maxRecDepth 100000 in
set_option maxHeartbeats 4000000 in
theorem tb_R_isShallow_43 {D : xD} {d : Nat} {S0 : xS} : ∀ (y0 : Int32) (S : xS) (z : Int32 × xS), b_R_isShallow_43 d y0 S = some z → V m_R_isShallow D (d + 1) S0 (cvI z) 43 [] [.int y0] S := by
  intro y0 S z h
  unfold b_R_isShallow_43 at h
  exact x_zretI h rfl d_R_isShallow_43
set_option maxRecDepth 100000 in
set_option maxHeartbeats 4000000 in
theorem tb_R_isShallow_42 {D : xD} {d : Nat} {S0 : xS} : ∀  (S : xS) (z : Int32 × xS), b_R_isShallow_42 d  S = some z → V m_R_isShallow D (d + 1) S0 (cvI z) 42 [] [] S := by
  intro  S z h
  unfold b_R_isShallow_42 at h
  refine x_iconst (v := 0) d_R_isShallow_42 (by decide) ?_
  refine x_ls [] rfl ?_
  exact tb_R_isShallow_43 0 S _ h
set_option maxRecDepth 100000 in
set_option maxHeartbeats 4000000 in
theorem te_R_isShallow {D : xD} {d : Nat} {S0 : xS} : ∀ (p0 : Option Nat) (S : xS) (z : Int32 × xS), e_R_isShallow d p0 S = some z → V m_R_isShallow D (d + 1) S0 (cvI z) 0 [(0, .inr (.inr p0))] [] S := by
  intro p0 S z h
  unfold e_R_isShallow at h
  refine x_aload_n 0 d_R_isShallow_0 rfl rfl ?_
  refine x_callS' (M' := m_R_heightOf) (ax := [.inr (.inr p0)]) (cv := cvI) (host := none) (st := []) h (fun q h l => s_R_heightOf d p0 S q h l D) rfl d_R_isShallow_1 wm_R_57 wc_R_heightOf rfl (Nat.le_of_ble_eq_true rfl) (fun q1 h => ?_)
  show V _ _ _ _ _ _ _ (.int q1.1 :: []) _
  refine x_istore_n (lv' := [(1, .inl q1.1), (0, .inr (.inr p0))]) d_R_isShallow_4 rfl (by decide) rfl ?_
  refine x_iload_n 0 d_R_isShallow_5 rfl rfl ?_
  refine x_iconst (v := 2) d_R_isShallow_6 (by decide) ?_
  refine x_icmp_gt (tgt := 12) d_R_isShallow_7 (by decide) h (fun h => ?_) (fun h => ?_)
  · refine x_aload_n 1 d_R_isShallow_12 rfl rfl ?_
    refine x_callS' (M' := m_R_piecesOf) (ax := [.inr (.inr p0)]) (cv := cvI) (host := none) (st := []) h (fun q h l => s_R_piecesOf d p0 q1.2 q h l D) rfl d_R_isShallow_13 wm_R_34 wc_R_piecesOf rfl (Nat.le_of_ble_eq_true rfl) (fun q2 h => ?_)
    show V _ _ _ _ _ _ _ (.int q2.1 :: []) _
    refine x_i2l d_R_isShallow_16 ?_
    refine x_lconst (v := 1) d_R_isShallow_17 (by decide) ?_
    refine x_ladd d_R_isShallow_18 ?_
    refine x_lstore_n (lv' := [(2, .inr (.inl (q2.1.toInt64 + ((1 : Int64))))), (1, .inl q1.1), (0, .inr (.inr p0))]) d_R_isShallow_19 rfl (by decide) rfl ?_
    refine x_iload_n 1 d_R_isShallow_20 rfl rfl ?_
    refine x_bipush (v := 40) d_R_isShallow_21 (by decide) ?_
    refine x_icmp_gt (tgt := 42) d_R_isShallow_23 (by decide) h (fun h => ?_) (fun h => ?_)
    · refine x_ls [] rfl ?_
      exact tb_R_isShallow_42 q2.2 _ h
    · refine x_lconst (v := 1) d_R_isShallow_26 (by decide) ?_
      refine x_iload_n 1 d_R_isShallow_27 rfl rfl ?_
      refine x_iconst (v := 2) d_R_isShallow_28 (by decide) ?_
      refine x_isub d_R_isShallow_29 ?_
      refine x_lshl d_R_isShallow_30 ?_
      refine x_lload_n 0 d_R_isShallow_31 rfl rfl ?_
      refine x_lload_n 0 d_R_isShallow_32 rfl rfl ?_
      refine x_lmul d_R_isShallow_33 ?_
      refine x_lcmp d_R_isShallow_34 ?_
      refine x_if_gt (tgt := 42) d_R_isShallow_35 (by decide) h (fun h => ?_) (fun h => ?_)
      · refine x_ls [] rfl ?_
        exact tb_R_isShallow_42 q2.2 _ h
      · refine x_iconst (v := 1) d_R_isShallow_38 (by decide) ?_
        refine x_goto (tgt := 43) d_R_isShallow_39 (by decide) ?_
        refine x_ls [] rfl ?_
        exact tb_R_isShallow_43 1 q2.2 _ h
  · refine x_iconst (v := 1) d_R_isShallow_10 (by decide) ?_
    exact x_zretI h rfl d_R_isShallow_11
theorem s_R_isShallow : ∀ (d : Nat) (p0 : Option Nat) (S : xS) (z : Int32 × xS), f_R_isShallow d p0 S = some z → ∀ (l : Launch) (D : xD), xMet l m_R_isShallow D d [.inr (.inr p0)] S (cvI z) := by
  intro d
  induction d with
  | zero =>
    intro p0 S z h
    cases h
  | succ d ih =>
    intro p0 S z h l D
    exact x_ofV rfl (by decide) (Nat.le_of_ble_eq_true rfl) (te_R_isShallow  p0 S z h)
