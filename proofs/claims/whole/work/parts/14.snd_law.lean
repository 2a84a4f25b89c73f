set_option maxRecDepth 100000 in
set_option maxHeartbeats 4000000 in
theorem te_L_write {D : xD} {d : Nat} {S0 : xS} : ∀ (p0 : Option Nat) (p1 : Int64) (p2 : Option Nat) (S : xS) (z : Int32 × xS), e_L_write d p0 p1 p2 S = some z → V m_L_write D (d + 1) S0 (cvI z) 0 [(0, .inr (.inr p0)), (1, .inr (.inl p1)), (3, .inr (.inr p2))] [] S := by
  intro p0 p1 p2 S z h
  unfold e_L_write at h
  refine x_aload_n 2 d_L_write_0 rfl rfl ?_
  refine x_iconst (v := 0) d_L_write_1 (by decide) ?_
  refine x_aload_n 0 d_L_write_2 rfl rfl ?_
  refine x_lload_n 1 d_L_write_3 rfl rfl ?_
  refine x_callV' (M' := m_P_write) (ax := [.inr (.inl p1)]) (cv := cvT) (host := none) (st := [.int 0, va_rf p2]) h (fun q h l => s_P_write d p0 p1 S q h l D) hc_0 rfl d_L_write_4 wm_L_7 wc_P_write rfl (Nat.le_of_ble_eq_true rfl) (fun q1 h => ?_)
  refine x_tryI h (fun v2 h => ?_) (fun e h => ?_)
  · refine x_i2l d_L_write_7 ?_
    refine x_last h ha_1 d_L_write_8 (fun S3 h => ?_)
    refine x_goto (tgt := 20) d_L_write_9 (by decide) ?_
    refine x_iconst (v := 0) d_L_write_20 (by decide) ?_
    cases h
    exact x_iret rfl d_L_write_21
  · by_cases e9_0 : e = 0
    · rw [if_pos e9_0] at h
      subst e9_0
      refine ⟨12, ⟨by decide, wq_0, [], 0, 9, 13, [(0, 9, 16, 15)], rfl, by decide, by decide, by decide, wg_L_13, fun q hq => absurd hq List.not_mem_nil⟩, fun a9 => ?_⟩
      refine x_astore (lv' := [(4, .inr (.inr (some a9))), (0, .inr (.inr p0)), (1, .inr (.inl p1)), (3, .inr (.inr p2))]) d_L_write_12 (by decide) rfl ?_
      refine x_iconst (v := 1) d_L_write_14 (by decide) ?_
      cases h
      exact x_iret rfl d_L_write_15
    rw [if_neg e9_0] at h
    by_cases e9_1 : e = 1
    · rw [if_pos e9_1] at h
      subst e9_1
      refine ⟨16, ⟨by decide, wq_1, [(0, 9, 12, 13)], 0, 9, 15, [], rfl, by decide, by decide, by decide, wg_L_15, List.forall_mem_cons.mpr ⟨⟨by decide, 0, by decide, by decide, wg_L_13⟩, fun q hq => absurd hq List.not_mem_nil⟩⟩, fun a9 => ?_⟩
      refine x_astore (lv' := [(4, .inr (.inr (some a9))), (0, .inr (.inr p0)), (1, .inr (.inl p1)), (3, .inr (.inr p2))]) d_L_write_16 (by decide) rfl ?_
      refine x_iconst (v := 2) d_L_write_18 (by decide) ?_
      cases h
      exact x_iret rfl d_L_write_19
    rw [if_neg e9_1] at h
    cases h
theorem s_L_write : ∀ (d : Nat) (p0 : Option Nat) (p1 : Int64) (p2 : Option Nat) (S : xS) (z : Int32 × xS), f_L_write d p0 p1 p2 S = some z → ∀ (l : Launch) (D : xD), xMet l m_L_write D d [.inr (.inr p0), .inr (.inl p1), .inr (.inr p2)] S (cvI z) := by
  intro d
  induction d with
  | zero =>
    intro p0 p1 p2 S z h
    cases h
  | succ d ih =>
    intro p0 p1 p2 S z h l D
    exact x_ofV rfl (by decide) (Nat.le_of_ble_eq_true rfl) (te_L_write  p0 p1 p2 S z h)
set_option maxRecDepth 100000 in
set_option maxHeartbeats 4000000 in
theorem te_L_put {D : xD} {d : Nat} {S0 : xS} : ∀ (p0 : Option Nat) (p1 : Int32) (p2 : Int32) (p3 : Int32) (p4 : Int32) (p5 : Int32) (p6 : Option Nat) (S : xS) (z : Int32 × xS), e_L_put d p0 p1 p2 p3 p4 p5 p6 S = some z → V m_L_put D (d + 1) S0 (cvI z) 0 [(0, .inr (.inr p0)), (1, .inl p1), (2, .inl p2), (3, .inl p3), (4, .inl p4), (5, .inl p5), (6, .inr (.inr p6))] [] S := by
  intro p0 p1 p2 p3 p4 p5 p6 S z h
  unfold e_L_put at h
  refine x_aload 6 d_L_put_0 rfl ?_
  refine x_iconst (v := 0) d_L_put_2 (by decide) ?_
  refine x_aload_n 0 d_L_put_3 rfl rfl ?_
  refine x_iload_n 1 d_L_put_4 rfl rfl ?_
  refine x_iload_n 2 d_L_put_5 rfl rfl ?_
  refine x_iload_n 3 d_L_put_6 rfl rfl ?_
  refine x_iload 4 d_L_put_7 rfl ?_
  refine x_iload 5 d_L_put_9 rfl ?_
  refine x_callV' (M' := m_P_put) (ax := [.inl p1, .inl p2, .inl p3, .inl p4, .inl p5]) (cv := cvT) (host := none) (st := [.int 0, va_rf p6]) h (fun q h l => s_P_put d p0 p1 p2 p3 p4 p5 S q h l D) hc_0 rfl d_L_put_11 wm_L_17 wc_P_put rfl (Nat.le_of_ble_eq_true rfl) (fun q1 h => ?_)
  refine x_tryI h (fun v2 h => ?_) (fun e h => ?_)
  · refine x_i2l d_L_put_14 ?_
    refine x_last h ha_1 d_L_put_15 (fun S3 h => ?_)
    refine x_goto (tgt := 27) d_L_put_16 (by decide) ?_
    refine x_iconst (v := 0) d_L_put_27 (by decide) ?_
    cases h
    exact x_iret rfl d_L_put_28
  · by_cases e9_2 : e = 2
    · rw [if_pos e9_2] at h
      subst e9_2
      refine ⟨19, ⟨by decide, wq_2, [], 0, 16, 21, [(0, 16, 23, 15)], rfl, by decide, by decide, by decide, wg_L_21, fun q hq => absurd hq List.not_mem_nil⟩, fun a9 => ?_⟩
      refine x_astore (lv' := [(7, .inr (.inr (some a9))), (0, .inr (.inr p0)), (1, .inl p1), (2, .inl p2), (3, .inl p3), (4, .inl p4), (5, .inl p5), (6, .inr (.inr p6))]) d_L_put_19 (by decide) rfl ?_
      refine x_iconst (v := 1) d_L_put_21 (by decide) ?_
      cases h
      exact x_iret rfl d_L_put_22
    rw [if_neg e9_2] at h
    by_cases e9_1 : e = 1
    · rw [if_pos e9_1] at h
      subst e9_1
      refine ⟨23, ⟨by decide, wq_1, [(0, 16, 19, 21)], 0, 16, 15, [], rfl, by decide, by decide, by decide, wg_L_15, List.forall_mem_cons.mpr ⟨⟨by decide, 2, by decide, by decide, wg_L_21⟩, fun q hq => absurd hq List.not_mem_nil⟩⟩, fun a9 => ?_⟩
      refine x_astore (lv' := [(7, .inr (.inr (some a9))), (0, .inr (.inr p0)), (1, .inl p1), (2, .inl p2), (3, .inl p3), (4, .inl p4), (5, .inl p5), (6, .inr (.inr p6))]) d_L_put_23 (by decide) rfl ?_
      refine x_iconst (v := 2) d_L_put_25 (by decide) ?_
      cases h
      exact x_iret rfl d_L_put_26
    rw [if_neg e9_1] at h
    cases h
theorem s_L_put : ∀ (d : Nat) (p0 : Option Nat) (p1 : Int32) (p2 : Int32) (p3 : Int32) (p4 : Int32) (p5 : Int32) (p6 : Option Nat) (S : xS) (z : Int32 × xS), f_L_put d p0 p1 p2 p3 p4 p5 p6 S = some z → ∀ (l : Launch) (D : xD), xMet l m_L_put D d [.inr (.inr p0), .inl p1, .inl p2, .inl p3, .inl p4, .inl p5, .inr (.inr p6)] S (cvI z) := by
  intro d
  induction d with
  | zero =>
    intro p0 p1 p2 p3 p4 p5 p6 S z h
    cases h
  | succ d ih =>
    intro p0 p1 p2 p3 p4 p5 p6 S z h l D
    exact x_ofV rfl (by decide) (Nat.le_of_ble_eq_true rfl) (te_L_put  p0 p1 p2 p3 p4 p5 p6 S z h)
set_option maxRecDepth 100000 in
set_option maxHeartbeats 4000000 in
theorem te_L_cut {D : xD} {d : Nat} {S0 : xS} : ∀ (p0 : Option Nat) (p1 : Int32) (p2 : Int32) (p3 : Int32) (p4 : Int32) (p5 : Option Nat) (S : xS) (z : Int32 × xS), e_L_cut d p0 p1 p2 p3 p4 p5 S = some z → V m_L_cut D (d + 1) S0 (cvI z) 0 [(0, .inr (.inr p0)), (1, .inl p1), (2, .inl p2), (3, .inl p3), (4, .inl p4), (5, .inr (.inr p5))] [] S := by
  intro p0 p1 p2 p3 p4 p5 S z h
  unfold e_L_cut at h
  refine x_aload 5 d_L_cut_0 rfl ?_
  refine x_iconst (v := 0) d_L_cut_2 (by decide) ?_
  refine x_aload_n 0 d_L_cut_3 rfl rfl ?_
  refine x_iload_n 1 d_L_cut_4 rfl rfl ?_
  refine x_iload_n 2 d_L_cut_5 rfl rfl ?_
  refine x_iload_n 3 d_L_cut_6 rfl rfl ?_
  refine x_iload 4 d_L_cut_7 rfl ?_
  refine x_callV' (M' := m_P_cut) (ax := [.inl p1, .inl p2, .inl p3, .inl p4]) (cv := cvT) (host := none) (st := [.int 0, va_rf p5]) h (fun q h l => s_P_cut d p0 p1 p2 p3 p4 S q h l D) hc_0 rfl d_L_cut_9 wm_L_23 wc_P_cut rfl (Nat.le_of_ble_eq_true rfl) (fun q1 h => ?_)
  refine x_tryI h (fun v2 h => ?_) (fun e h => ?_)
  · refine x_i2l d_L_cut_12 ?_
    refine x_last h ha_1 d_L_cut_13 (fun S3 h => ?_)
    refine x_goto (tgt := 29) d_L_cut_14 (by decide) ?_
    refine x_iconst (v := 0) d_L_cut_29 (by decide) ?_
    cases h
    exact x_iret rfl d_L_cut_30
  · by_cases e9_2 : e = 2
    · rw [if_pos e9_2] at h
      subst e9_2
      refine ⟨17, ⟨by decide, wq_2, [], 0, 14, 21, [(0, 14, 21, 13), (0, 14, 25, 15)], rfl, by decide, by decide, by decide, wg_L_21, fun q hq => absurd hq List.not_mem_nil⟩, fun a9 => ?_⟩
      refine x_astore (lv' := [(6, .inr (.inr (some a9))), (0, .inr (.inr p0)), (1, .inl p1), (2, .inl p2), (3, .inl p3), (4, .inl p4), (5, .inr (.inr p5))]) d_L_cut_17 (by decide) rfl ?_
      refine x_iconst (v := 1) d_L_cut_19 (by decide) ?_
      cases h
      exact x_iret rfl d_L_cut_20
    rw [if_neg e9_2] at h
    by_cases e9_0 : e = 0
    · rw [if_pos e9_0] at h
      subst e9_0
      refine ⟨21, ⟨by decide, wq_0, [(0, 14, 17, 21)], 0, 14, 13, [(0, 14, 25, 15)], rfl, by decide, by decide, by decide, wg_L_13, List.forall_mem_cons.mpr ⟨⟨by decide, 2, by decide, by decide, wg_L_21⟩, fun q hq => absurd hq List.not_mem_nil⟩⟩, fun a9 => ?_⟩
      refine x_astore (lv' := [(6, .inr (.inr (some a9))), (0, .inr (.inr p0)), (1, .inl p1), (2, .inl p2), (3, .inl p3), (4, .inl p4), (5, .inr (.inr p5))]) d_L_cut_21 (by decide) rfl ?_
      refine x_iconst (v := 2) d_L_cut_23 (by decide) ?_
      cases h
      exact x_iret rfl d_L_cut_24
    rw [if_neg e9_0] at h
    by_cases e9_1 : e = 1
    · rw [if_pos e9_1] at h
      subst e9_1
      refine ⟨25, ⟨by decide, wq_1, [(0, 14, 17, 21), (0, 14, 21, 13)], 0, 14, 15, [], rfl, by decide, by decide, by decide, wg_L_15, List.forall_mem_cons.mpr ⟨⟨by decide, 2, by decide, by decide, wg_L_21⟩, List.forall_mem_cons.mpr ⟨⟨by decide, 0, by decide, by decide, wg_L_13⟩, fun q hq => absurd hq List.not_mem_nil⟩⟩⟩, fun a9 => ?_⟩
      refine x_astore (lv' := [(6, .inr (.inr (some a9))), (0, .inr (.inr p0)), (1, .inl p1), (2, .inl p2), (3, .inl p3), (4, .inl p4), (5, .inr (.inr p5))]) d_L_cut_25 (by decide) rfl ?_
      refine x_iconst (v := 3) d_L_cut_27 (by decide) ?_
      cases h
      exact x_iret rfl d_L_cut_28
    rw [if_neg e9_1] at h
    cases h
theorem s_L_cut : ∀ (d : Nat) (p0 : Option Nat) (p1 : Int32) (p2 : Int32) (p3 : Int32) (p4 : Int32) (p5 : Option Nat) (S : xS) (z : Int32 × xS), f_L_cut d p0 p1 p2 p3 p4 p5 S = some z → ∀ (l : Launch) (D : xD), xMet l m_L_cut D d [.inr (.inr p0), .inl p1, .inl p2, .inl p3, .inl p4, .inr (.inr p5)] S (cvI z) := by
  intro d
  induction d with
  | zero =>
    intro p0 p1 p2 p3 p4 p5 S z h
    cases h
  | succ d ih =>
    intro p0 p1 p2 p3 p4 p5 S z h l D
    exact x_ofV rfl (by decide) (Nat.le_of_ble_eq_true rfl) (te_L_cut  p0 p1 p2 p3 p4 p5 S z h)
set_option maxRecDepth 100000 in
set_option maxHeartbeats 4000000 in
theorem te_L_paste {D : xD} {d : Nat} {S0 : xS} : ∀ (p0 : Option Nat) (p1 : Int32) (p2 : Int32) (p3 : Int32) (p4 : Option Nat) (S : xS) (z : Int32 × xS), e_L_paste d p0 p1 p2 p3 p4 S = some z → V m_L_paste D (d + 1) S0 (cvI z) 0 [(0, .inr (.inr p0)), (1, .inl p1), (2, .inl p2), (3, .inl p3), (4, .inr (.inr p4))] [] S := by
  intro p0 p1 p2 p3 p4 S z h
  unfold e_L_paste at h
  refine x_aload 4 d_L_paste_0 rfl ?_
  refine x_iconst (v := 0) d_L_paste_2 (by decide) ?_
  refine x_aload_n 0 d_L_paste_3 rfl rfl ?_
  refine x_iload_n 1 d_L_paste_4 rfl rfl ?_
  refine x_iload_n 2 d_L_paste_5 rfl rfl ?_
  refine x_iload_n 3 d_L_paste_6 rfl rfl ?_
  refine x_callV' (M' := m_P_paste) (ax := [.inl p1, .inl p2, .inl p3]) (cv := cvT) (host := none) (st := [.int 0, va_rf p4]) h (fun q h l => s_P_paste d p0 p1 p2 p3 S q h l D) hc_0 rfl d_L_paste_7 wm_L_27 wc_P_paste rfl (Nat.le_of_ble_eq_true rfl) (fun q1 h => ?_)
  refine x_tryI h (fun v2 h => ?_) (fun e h => ?_)
  · refine x_i2l d_L_paste_10 ?_
    refine x_last h ha_1 d_L_paste_11 (fun S3 h => ?_)
    refine x_goto (tgt := 27) d_L_paste_12 (by decide) ?_
    refine x_iconst (v := 0) d_L_paste_27 (by decide) ?_
    cases h
    exact x_iret rfl d_L_paste_28
  · by_cases e9_2 : e = 2
    · rw [if_pos e9_2] at h
      subst e9_2
      refine ⟨15, ⟨by decide, wq_2, [], 0, 12, 21, [(0, 12, 19, 13), (0, 12, 23, 15)], rfl, by decide, by decide, by decide, wg_L_21, fun q hq => absurd hq List.not_mem_nil⟩, fun a9 => ?_⟩
      refine x_astore (lv' := [(5, .inr (.inr (some a9))), (0, .inr (.inr p0)), (1, .inl p1), (2, .inl p2), (3, .inl p3), (4, .inr (.inr p4))]) d_L_paste_15 (by decide) rfl ?_
      refine x_iconst (v := 1) d_L_paste_17 (by decide) ?_
      cases h
      exact x_iret rfl d_L_paste_18
    rw [if_neg e9_2] at h
    by_cases e9_0 : e = 0
    · rw [if_pos e9_0] at h
      subst e9_0
      refine ⟨19, ⟨by decide, wq_0, [(0, 12, 15, 21)], 0, 12, 13, [(0, 12, 23, 15)], rfl, by decide, by decide, by decide, wg_L_13, List.forall_mem_cons.mpr ⟨⟨by decide, 2, by decide, by decide, wg_L_21⟩, fun q hq => absurd hq List.not_mem_nil⟩⟩, fun a9 => ?_⟩
      refine x_astore (lv' := [(5, .inr (.inr (some a9))), (0, .inr (.inr p0)), (1, .inl p1), (2, .inl p2), (3, .inl p3), (4, .inr (.inr p4))]) d_L_paste_19 (by decide) rfl ?_
      refine x_iconst (v := 2) d_L_paste_21 (by decide) ?_
      cases h
      exact x_iret rfl d_L_paste_22
    rw [if_neg e9_0] at h
    by_cases e9_1 : e = 1
    · rw [if_pos e9_1] at h
      subst e9_1
      refine ⟨23, ⟨by decide, wq_1, [(0, 12, 15, 21), (0, 12, 19, 13)], 0, 12, 15, [], rfl, by decide, by decide, by decide, wg_L_15, List.forall_mem_cons.mpr ⟨⟨by decide, 2, by decide, by decide, wg_L_21⟩, List.forall_mem_cons.mpr ⟨⟨by decide, 0, by decide, by decide, wg_L_13⟩, fun q hq => absurd hq List.not_mem_nil⟩⟩⟩, fun a9 => ?_⟩
      refine x_astore (lv' := [(5, .inr (.inr (some a9))), (0, .inr (.inr p0)), (1, .inl p1), (2, .inl p2), (3, .inl p3), (4, .inr (.inr p4))]) d_L_paste_23 (by decide) rfl ?_
      refine x_iconst (v := 3) d_L_paste_25 (by decide) ?_
      cases h
      exact x_iret rfl d_L_paste_26
    rw [if_neg e9_1] at h
    cases h
theorem s_L_paste : ∀ (d : Nat) (p0 : Option Nat) (p1 : Int32) (p2 : Int32) (p3 : Int32) (p4 : Option Nat) (S : xS) (z : Int32 × xS), f_L_paste d p0 p1 p2 p3 p4 S = some z → ∀ (l : Launch) (D : xD), xMet l m_L_paste D d [.inr (.inr p0), .inl p1, .inl p2, .inl p3, .inr (.inr p4)] S (cvI z) := by
  intro d
  induction d with
  | zero =>
    intro p0 p1 p2 p3 p4 S z h
    cases h
  | succ d ih =>
    intro p0 p1 p2 p3 p4 S z h l D
    exact x_ofV rfl (by decide) (Nat.le_of_ble_eq_true rfl) (te_L_paste  p0 p1 p2 p3 p4 S z h)
set_option maxRecDepth 100000 in
set_option maxHeartbeats 4000000 in
theorem te_L_copy {D : xD} {d : Nat} {S0 : xS} : ∀ (p0 : Option Nat) (p1 : Int32) (p2 : Int32) (p3 : Int32) (p4 : Int32) (p5 : Option Nat) (S : xS) (z : Int32 × xS), e_L_copy d p0 p1 p2 p3 p4 p5 S = some z → V m_L_copy D (d + 1) S0 (cvI z) 0 [(0, .inr (.inr p0)), (1, .inl p1), (2, .inl p2), (3, .inl p3), (4, .inl p4), (5, .inr (.inr p5))] [] S := by
  intro p0 p1 p2 p3 p4 p5 S z h
  unfold e_L_copy at h
  refine x_aload 5 d_L_copy_0 rfl ?_
  refine x_iconst (v := 0) d_L_copy_2 (by decide) ?_
  refine x_aload_n 0 d_L_copy_3 rfl rfl ?_
  refine x_iload_n 1 d_L_copy_4 rfl rfl ?_
  refine x_iload_n 2 d_L_copy_5 rfl rfl ?_
  refine x_iload_n 3 d_L_copy_6 rfl rfl ?_
  refine x_iload 4 d_L_copy_7 rfl ?_
  refine x_callV' (M' := m_P_copy) (ax := [.inl p1, .inl p2, .inl p3, .inl p4]) (cv := cvT) (host := none) (st := [.int 0, va_rf p5]) h (fun q h l => s_P_copy d p0 p1 p2 p3 p4 S q h l D) hc_0 rfl d_L_copy_9 wm_L_31 wc_P_copy rfl (Nat.le_of_ble_eq_true rfl) (fun q1 h => ?_)
  refine x_tryI h (fun v2 h => ?_) (fun e h => ?_)
  · refine x_i2l d_L_copy_12 ?_
    refine x_last h ha_1 d_L_copy_13 (fun S3 h => ?_)
    refine x_goto (tgt := 29) d_L_copy_14 (by decide) ?_
    refine x_iconst (v := 0) d_L_copy_29 (by decide) ?_
    cases h
    exact x_iret rfl d_L_copy_30
  · by_cases e9_2 : e = 2
    · rw [if_pos e9_2] at h
      subst e9_2
      refine ⟨17, ⟨by decide, wq_2, [], 0, 14, 21, [(0, 14, 21, 13), (0, 14, 25, 15)], rfl, by decide, by decide, by decide, wg_L_21, fun q hq => absurd hq List.not_mem_nil⟩, fun a9 => ?_⟩
      refine x_astore (lv' := [(6, .inr (.inr (some a9))), (0, .inr (.inr p0)), (1, .inl p1), (2, .inl p2), (3, .inl p3), (4, .inl p4), (5, .inr (.inr p5))]) d_L_copy_17 (by decide) rfl ?_
      refine x_iconst (v := 1) d_L_copy_19 (by decide) ?_
      cases h
      exact x_iret rfl d_L_copy_20
    rw [if_neg e9_2] at h
    by_cases e9_0 : e = 0
    · rw [if_pos e9_0] at h
      subst e9_0
      refine ⟨21, ⟨by decide, wq_0, [(0, 14, 17, 21)], 0, 14, 13, [(0, 14, 25, 15)], rfl, by decide, by decide, by decide, wg_L_13, List.forall_mem_cons.mpr ⟨⟨by decide, 2, by decide, by decide, wg_L_21⟩, fun q hq => absurd hq List.not_mem_nil⟩⟩, fun a9 => ?_⟩
      refine x_astore (lv' := [(6, .inr (.inr (some a9))), (0, .inr (.inr p0)), (1, .inl p1), (2, .inl p2), (3, .inl p3), (4, .inl p4), (5, .inr (.inr p5))]) d_L_copy_21 (by decide) rfl ?_
      refine x_iconst (v := 2) d_L_copy_23 (by decide) ?_
      cases h
      exact x_iret rfl d_L_copy_24
    rw [if_neg e9_0] at h
    by_cases e9_1 : e = 1
    · rw [if_pos e9_1] at h
      subst e9_1
      refine ⟨25, ⟨by decide, wq_1, [(0, 14, 17, 21), (0, 14, 21, 13)], 0, 14, 15, [], rfl, by decide, by decide, by decide, wg_L_15, List.forall_mem_cons.mpr ⟨⟨by decide, 2, by decide, by decide, wg_L_21⟩, List.forall_mem_cons.mpr ⟨⟨by decide, 0, by decide, by decide, wg_L_13⟩, fun q hq => absurd hq List.not_mem_nil⟩⟩⟩, fun a9 => ?_⟩
      refine x_astore (lv' := [(6, .inr (.inr (some a9))), (0, .inr (.inr p0)), (1, .inl p1), (2, .inl p2), (3, .inl p3), (4, .inl p4), (5, .inr (.inr p5))]) d_L_copy_25 (by decide) rfl ?_
      refine x_iconst (v := 3) d_L_copy_27 (by decide) ?_
      cases h
      exact x_iret rfl d_L_copy_28
    rw [if_neg e9_1] at h
    cases h
theorem s_L_copy : ∀ (d : Nat) (p0 : Option Nat) (p1 : Int32) (p2 : Int32) (p3 : Int32) (p4 : Int32) (p5 : Option Nat) (S : xS) (z : Int32 × xS), f_L_copy d p0 p1 p2 p3 p4 p5 S = some z → ∀ (l : Launch) (D : xD), xMet l m_L_copy D d [.inr (.inr p0), .inl p1, .inl p2, .inl p3, .inl p4, .inr (.inr p5)] S (cvI z) := by
  intro d
  induction d with
  | zero =>
    intro p0 p1 p2 p3 p4 p5 S z h
    cases h
  | succ d ih =>
    intro p0 p1 p2 p3 p4 p5 S z h l D
    exact x_ofV rfl (by decide) (Nat.le_of_ble_eq_true rfl) (te_L_copy  p0 p1 p2 p3 p4 p5 S z h)
set_option maxRecDepth 100000 in
set_option maxHeartbeats 4000000 in
theorem te_L_tag {D : xD} {d : Nat} {S0 : xS} : ∀ (p0 : Option Nat) (p1 : Int32) (p2 : Int32) (p3 : Int32) (p4 : Int32) (p5 : Int32) (p6 : Option Nat) (S : xS) (z : Int32 × xS), e_L_tag d p0 p1 p2 p3 p4 p5 p6 S = some z → V m_L_tag D (d + 1) S0 (cvI z) 0 [(0, .inr (.inr p0)), (1, .inl p1), (2, .inl p2), (3, .inl p3), (4, .inl p4), (5, .inl p5), (6, .inr (.inr p6))] [] S := by
  intro p0 p1 p2 p3 p4 p5 p6 S z h
  unfold e_L_tag at h
  refine x_aload 6 d_L_tag_0 rfl ?_
  refine x_iconst (v := 0) d_L_tag_2 (by decide) ?_
  refine x_aload_n 0 d_L_tag_3 rfl rfl ?_
  refine x_iload_n 1 d_L_tag_4 rfl rfl ?_
  refine x_iload_n 2 d_L_tag_5 rfl rfl ?_
  refine x_iload_n 3 d_L_tag_6 rfl rfl ?_
  refine x_iload 4 d_L_tag_7 rfl ?_
  refine x_iload 5 d_L_tag_9 rfl ?_
  refine x_callV' (M' := m_P_tag) (ax := [.inl p1, .inl p2, .inl p3, .inl p4, .inl p5]) (cv := cvT) (host := none) (st := [.int 0, va_rf p6]) h (fun q h l => s_P_tag d p0 p1 p2 p3 p4 p5 S q h l D) hc_0 rfl d_L_tag_11 wm_L_34 wc_P_tag rfl (Nat.le_of_ble_eq_true rfl) (fun q1 h => ?_)
  refine x_tryI h (fun v2 h => ?_) (fun e h => ?_)
  · refine x_i2l d_L_tag_14 ?_
    refine x_last h ha_1 d_L_tag_15 (fun S3 h => ?_)
    refine x_goto (tgt := 27) d_L_tag_16 (by decide) ?_
    refine x_iconst (v := 0) d_L_tag_27 (by decide) ?_
    cases h
    exact x_iret rfl d_L_tag_28
  · by_cases e9_2 : e = 2
    · rw [if_pos e9_2] at h
      subst e9_2
      refine ⟨19, ⟨by decide, wq_2, [], 0, 16, 21, [(0, 16, 23, 15)], rfl, by decide, by decide, by decide, wg_L_21, fun q hq => absurd hq List.not_mem_nil⟩, fun a9 => ?_⟩
      refine x_astore (lv' := [(7, .inr (.inr (some a9))), (0, .inr (.inr p0)), (1, .inl p1), (2, .inl p2), (3, .inl p3), (4, .inl p4), (5, .inl p5), (6, .inr (.inr p6))]) d_L_tag_19 (by decide) rfl ?_
      refine x_iconst (v := 1) d_L_tag_21 (by decide) ?_
      cases h
      exact x_iret rfl d_L_tag_22
    rw [if_neg e9_2] at h
    by_cases e9_1 : e = 1
    · rw [if_pos e9_1] at h
      subst e9_1
      refine ⟨23, ⟨by decide, wq_1, [(0, 16, 19, 21)], 0, 16, 15, [], rfl, by decide, by decide, by decide, wg_L_15, List.forall_mem_cons.mpr ⟨⟨by decide, 2, by decide, by decide, wg_L_21⟩, fun q hq => absurd hq List.not_mem_nil⟩⟩, fun a9 => ?_⟩
      refine x_astore (lv' := [(7, .inr (.inr (some a9))), (0, .inr (.inr p0)), (1, .inl p1), (2, .inl p2), (3, .inl p3), (4, .inl p4), (5, .inl p5), (6, .inr (.inr p6))]) d_L_tag_23 (by decide) rfl ?_
      refine x_iconst (v := 2) d_L_tag_25 (by decide) ?_
      cases h
      exact x_iret rfl d_L_tag_26
    rw [if_neg e9_1] at h
    cases h
theorem s_L_tag : ∀ (d : Nat) (p0 : Option Nat) (p1 : Int32) (p2 : Int32) (p3 : Int32) (p4 : Int32) (p5 : Int32) (p6 : Option Nat) (S : xS) (z : Int32 × xS), f_L_tag d p0 p1 p2 p3 p4 p5 p6 S = some z → ∀ (l : Launch) (D : xD), xMet l m_L_tag D d [.inr (.inr p0), .inl p1, .inl p2, .inl p3, .inl p4, .inl p5, .inr (.inr p6)] S (cvI z) := by
  intro d
  induction d with
  | zero =>
    intro p0 p1 p2 p3 p4 p5 p6 S z h
    cases h
  | succ d ih =>
    intro p0 p1 p2 p3 p4 p5 p6 S z h l D
    exact x_ofV rfl (by decide) (Nat.le_of_ble_eq_true rfl) (te_L_tag  p0 p1 p2 p3 p4 p5 p6 S z h)
set_option maxRecDepth 100000 in
set_option maxHeartbeats 4000000 in
theorem te_L_wipe {D : xD} {d : Nat} {S0 : xS} : ∀ (p0 : Option Nat) (p1 : Int32) (p2 : Option Nat) (S : xS) (z : Int32 × xS), e_L_wipe d p0 p1 p2 S = some z → V m_L_wipe D (d + 1) S0 (cvI z) 0 [(0, .inr (.inr p0)), (1, .inl p1), (2, .inr (.inr p2))] [] S := by
  intro p0 p1 p2 S z h
  unfold e_L_wipe at h
  refine x_aload_n 2 d_L_wipe_0 rfl rfl ?_
  refine x_iconst (v := 0) d_L_wipe_1 (by decide) ?_
  refine x_aload_n 0 d_L_wipe_2 rfl rfl ?_
  refine x_iload_n 1 d_L_wipe_3 rfl rfl ?_
  refine x_callV' (M' := m_P_wipe) (ax := [.inl p1]) (cv := cvT) (host := none) (st := [.int 0, va_rf p2]) h (fun q h l => s_P_wipe d p0 p1 S q h l D) hc_0 rfl d_L_wipe_4 wm_L_37 wc_P_wipe rfl (Nat.le_of_ble_eq_true rfl) (fun q1 h => ?_)
  refine x_tryI h (fun v2 h => ?_) (fun e h => ?_)
  · refine x_i2l d_L_wipe_7 ?_
    refine x_last h ha_1 d_L_wipe_8 (fun S3 h => ?_)
    refine x_goto (tgt := 15) d_L_wipe_9 (by decide) ?_
    refine x_iconst (v := 0) d_L_wipe_15 (by decide) ?_
    cases h
    exact x_iret rfl d_L_wipe_16
  · by_cases e9_2 : e = 2
    · rw [if_pos e9_2] at h
      subst e9_2
      refine ⟨12, ⟨by decide, wq_2, [], 0, 9, 21, [], rfl, by decide, by decide, by decide, wg_L_21, fun q hq => absurd hq List.not_mem_nil⟩, fun a9 => ?_⟩
      refine x_astore_n (lv' := [(3, .inr (.inr (some a9))), (0, .inr (.inr p0)), (1, .inl p1), (2, .inr (.inr p2))]) d_L_wipe_12 rfl (by decide) rfl ?_
      refine x_iconst (v := 1) d_L_wipe_13 (by decide) ?_
      cases h
      exact x_iret rfl d_L_wipe_14
    rw [if_neg e9_2] at h
    cases h
theorem s_L_wipe : ∀ (d : Nat) (p0 : Option Nat) (p1 : Int32) (p2 : Option Nat) (S : xS) (z : Int32 × xS), f_L_wipe d p0 p1 p2 S = some z → ∀ (l : Launch) (D : xD), xMet l m_L_wipe D d [.inr (.inr p0), .inl p1, .inr (.inr p2)] S (cvI z) := by
  intro d
  induction d with
  | zero =>
    intro p0 p1 p2 S z h
    cases h
  | succ d ih =>
    intro p0 p1 p2 S z h l D
    exact x_ofV rfl (by decide) (Nat.le_of_ble_eq_true rfl) (te_L_wipe  p0 p1 p2 S z h)
set_option maxRecDepth 100000 in
set_option maxHeartbeats 4000000 in
theorem te_L_look {D : xD} {d : Nat} {S0 : xS} : ∀ (p0 : Option Nat) (p1 : Int32) (p2 : Int32) (p3 : Int32) (p4 : Option Nat) (S : xS) (z : Int32 × xS), e_L_look d p0 p1 p2 p3 p4 S = some z → V m_L_look D (d + 1) S0 (cvI z) 0 [(0, .inr (.inr p0)), (1, .inl p1), (2, .inl p2), (3, .inl p3), (4, .inr (.inr p4))] [] S := by
  intro p0 p1 p2 p3 p4 S z h
  unfold e_L_look at h
  refine x_aload 4 d_L_look_0 rfl ?_
  refine x_iconst (v := 0) d_L_look_2 (by decide) ?_
  refine x_aload_n 0 d_L_look_3 rfl rfl ?_
  refine x_iload_n 1 d_L_look_4 rfl rfl ?_
  refine x_iload_n 2 d_L_look_5 rfl rfl ?_
  refine x_iload_n 3 d_L_look_6 rfl rfl ?_
  refine x_callV' (M' := m_P_look) (ax := [.inl p1, .inl p2, .inl p3]) (cv := cvT) (host := none) (st := [.int 0, va_rf p4]) h (fun q h l => s_P_look d p0 p1 p2 p3 S q h l D) hc_0 rfl d_L_look_7 wm_L_41 wc_P_look rfl (Nat.le_of_ble_eq_true rfl) (fun q1 h => ?_)
  refine x_tryI h (fun v2 h => ?_) (fun e h => ?_)
  · refine x_i2l d_L_look_10 ?_
    refine x_last h ha_1 d_L_look_11 (fun S3 h => ?_)
    refine x_goto (tgt := 23) d_L_look_12 (by decide) ?_
    refine x_iconst (v := 0) d_L_look_23 (by decide) ?_
    cases h
    exact x_iret rfl d_L_look_24
  · by_cases e9_2 : e = 2
    · rw [if_pos e9_2] at h
      subst e9_2
      refine ⟨15, ⟨by decide, wq_2, [], 0, 12, 21, [(0, 12, 19, 13)], rfl, by decide, by decide, by decide, wg_L_21, fun q hq => absurd hq List.not_mem_nil⟩, fun a9 => ?_⟩
      refine x_astore (lv' := [(5, .inr (.inr (some a9))), (0, .inr (.inr p0)), (1, .inl p1), (2, .inl p2), (3, .inl p3), (4, .inr (.inr p4))]) d_L_look_15 (by decide) rfl ?_
      refine x_iconst (v := 1) d_L_look_17 (by decide) ?_
      cases h
      exact x_iret rfl d_L_look_18
    rw [if_neg e9_2] at h
    by_cases e9_0 : e = 0
    · rw [if_pos e9_0] at h
      subst e9_0
      refine ⟨19, ⟨by decide, wq_0, [(0, 12, 15, 21)], 0, 12, 13, [], rfl, by decide, by decide, by decide, wg_L_13, List.forall_mem_cons.mpr ⟨⟨by decide, 2, by decide, by decide, wg_L_21⟩, fun q hq => absurd hq List.not_mem_nil⟩⟩, fun a9 => ?_⟩
      refine x_astore (lv' := [(5, .inr (.inr (some a9))), (0, .inr (.inr p0)), (1, .inl p1), (2, .inl p2), (3, .inl p3), (4, .inr (.inr p4))]) d_L_look_19 (by decide) rfl ?_
      refine x_iconst (v := 2) d_L_look_21 (by decide) ?_
      cases h
      exact x_iret rfl d_L_look_22
    rw [if_neg e9_0] at h
    cases h
theorem s_L_look : ∀ (d : Nat) (p0 : Option Nat) (p1 : Int32) (p2 : Int32) (p3 : Int32) (p4 : Option Nat) (S : xS) (z : Int32 × xS), f_L_look d p0 p1 p2 p3 p4 S = some z → ∀ (l : Launch) (D : xD), xMet l m_L_look D d [.inr (.inr p0), .inl p1, .inl p2, .inl p3, .inr (.inr p4)] S (cvI z) := by
  intro d
  induction d with
  | zero =>
    intro p0 p1 p2 p3 p4 S z h
    cases h
  | succ d ih =>
    intro p0 p1 p2 p3 p4 S z h l D
    exact x_ofV rfl (by decide) (Nat.le_of_ble_eq_true rfl) (te_L_look  p0 p1 p2 p3 p4 S z h)
set_option maxRecDepth 100000 in
set_option maxHeartbeats 4000000 in
theorem te_L_piece {D : xD} {d : Nat} {S0 : xS} : ∀ (p0 : Option Nat) (p1 : Int32) (p2 : Int32) (p3 : Int32) (p4 : Option Nat) (S : xS) (z : Int32 × xS), e_L_piece d p0 p1 p2 p3 p4 S = some z → V m_L_piece D (d + 1) S0 (cvI z) 0 [(0, .inr (.inr p0)), (1, .inl p1), (2, .inl p2), (3, .inl p3), (4, .inr (.inr p4))] [] S := by
  intro p0 p1 p2 p3 p4 S z h
  unfold e_L_piece at h
  refine x_aload 4 d_L_piece_0 rfl ?_
  refine x_iconst (v := 0) d_L_piece_2 (by decide) ?_
  refine x_aload_n 0 d_L_piece_3 rfl rfl ?_
  refine x_iload_n 1 d_L_piece_4 rfl rfl ?_
  refine x_iload_n 2 d_L_piece_5 rfl rfl ?_
  refine x_iload_n 3 d_L_piece_6 rfl rfl ?_
  refine x_callV' (M' := m_P_piece) (ax := [.inl p1, .inl p2, .inl p3]) (cv := cvT) (host := none) (st := [.int 0, va_rf p4]) h (fun q h l => s_P_piece d p0 p1 p2 p3 S q h l D) hc_0 rfl d_L_piece_7 wm_L_44 wc_P_piece rfl (Nat.le_of_ble_eq_true rfl) (fun q1 h => ?_)
  refine x_tryI h (fun v2 h => ?_) (fun e h => ?_)
  · refine x_i2l d_L_piece_10 ?_
    refine x_last h ha_1 d_L_piece_11 (fun S3 h => ?_)
    refine x_goto (tgt := 23) d_L_piece_12 (by decide) ?_
    refine x_iconst (v := 0) d_L_piece_23 (by decide) ?_
    cases h
    exact x_iret rfl d_L_piece_24
  · by_cases e9_2 : e = 2
    · rw [if_pos e9_2] at h
      subst e9_2
      refine ⟨15, ⟨by decide, wq_2, [], 0, 12, 21, [(0, 12, 19, 13)], rfl, by decide, by decide, by decide, wg_L_21, fun q hq => absurd hq List.not_mem_nil⟩, fun a9 => ?_⟩
      refine x_astore (lv' := [(5, .inr (.inr (some a9))), (0, .inr (.inr p0)), (1, .inl p1), (2, .inl p2), (3, .inl p3), (4, .inr (.inr p4))]) d_L_piece_15 (by decide) rfl ?_
      refine x_iconst (v := 1) d_L_piece_17 (by decide) ?_
      cases h
      exact x_iret rfl d_L_piece_18
    rw [if_neg e9_2] at h
    by_cases e9_0 : e = 0
    · rw [if_pos e9_0] at h
      subst e9_0
      refine ⟨19, ⟨by decide, wq_0, [(0, 12, 15, 21)], 0, 12, 13, [], rfl, by decide, by decide, by decide, wg_L_13, List.forall_mem_cons.mpr ⟨⟨by decide, 2, by decide, by decide, wg_L_21⟩, fun q hq => absurd hq List.not_mem_nil⟩⟩, fun a9 => ?_⟩
      refine x_astore (lv' := [(5, .inr (.inr (some a9))), (0, .inr (.inr p0)), (1, .inl p1), (2, .inl p2), (3, .inl p3), (4, .inr (.inr p4))]) d_L_piece_19 (by decide) rfl ?_
      refine x_iconst (v := 2) d_L_piece_21 (by decide) ?_
      cases h
      exact x_iret rfl d_L_piece_22
    rw [if_neg e9_0] at h
    cases h
theorem s_L_piece : ∀ (d : Nat) (p0 : Option Nat) (p1 : Int32) (p2 : Int32) (p3 : Int32) (p4 : Option Nat) (S : xS) (z : Int32 × xS), f_L_piece d p0 p1 p2 p3 p4 S = some z → ∀ (l : Launch) (D : xD), xMet l m_L_piece D d [.inr (.inr p0), .inl p1, .inl p2, .inl p3, .inr (.inr p4)] S (cvI z) := by
  intro d
  induction d with
  | zero =>
    intro p0 p1 p2 p3 p4 S z h
    cases h
  | succ d ih =>
    intro p0 p1 p2 p3 p4 S z h l D
    exact x_ofV rfl (by decide) (Nat.le_of_ble_eq_true rfl) (te_L_piece  p0 p1 p2 p3 p4 S z h)
set_option maxRecDepth 100000 in
set_option maxHeartbeats 4000000 in
theorem te_L_find {D : xD} {d : Nat} {S0 : xS} : ∀ (p0 : Option Nat) (p1 : Int32) (p2 : Int32) (p3 : Int32) (p4 : Option Nat) (S : xS) (z : Int32 × xS), e_L_find d p0 p1 p2 p3 p4 S = some z → V m_L_find D (d + 1) S0 (cvI z) 0 [(0, .inr (.inr p0)), (1, .inl p1), (2, .inl p2), (3, .inl p3), (4, .inr (.inr p4))] [] S := by
  intro p0 p1 p2 p3 p4 S z h
  unfold e_L_find at h
  refine x_aload 4 d_L_find_0 rfl ?_
  refine x_iconst (v := 0) d_L_find_2 (by decide) ?_
  refine x_aload_n 0 d_L_find_3 rfl rfl ?_
  refine x_iload_n 1 d_L_find_4 rfl rfl ?_
  refine x_iload_n 2 d_L_find_5 rfl rfl ?_
  refine x_iload_n 3 d_L_find_6 rfl rfl ?_
  refine x_callV' (M' := m_P_find) (ax := [.inl p1, .inl p2, .inl p3]) (cv := cvT) (host := none) (st := [.int 0, va_rf p4]) h (fun q h l => s_P_find d p0 p1 p2 p3 S q h l D) hc_0 rfl d_L_find_7 wm_L_47 wc_P_find rfl (Nat.le_of_ble_eq_true rfl) (fun q1 h => ?_)
  refine x_tryI h (fun v2 h => ?_) (fun e h => ?_)
  · refine x_i2l d_L_find_10 ?_
    refine x_last h ha_1 d_L_find_11 (fun S3 h => ?_)
    refine x_goto (tgt := 19) d_L_find_12 (by decide) ?_
    refine x_iconst (v := 0) d_L_find_19 (by decide) ?_
    cases h
    exact x_iret rfl d_L_find_20
  · by_cases e9_2 : e = 2
    · rw [if_pos e9_2] at h
      subst e9_2
      refine ⟨15, ⟨by decide, wq_2, [], 0, 12, 21, [], rfl, by decide, by decide, by decide, wg_L_21, fun q hq => absurd hq List.not_mem_nil⟩, fun a9 => ?_⟩
      refine x_astore (lv' := [(5, .inr (.inr (some a9))), (0, .inr (.inr p0)), (1, .inl p1), (2, .inl p2), (3, .inl p3), (4, .inr (.inr p4))]) d_L_find_15 (by decide) rfl ?_
      refine x_iconst (v := 1) d_L_find_17 (by decide) ?_
      cases h
      exact x_iret rfl d_L_find_18
    rw [if_neg e9_2] at h
    cases h
theorem s_L_find : ∀ (d : Nat) (p0 : Option Nat) (p1 : Int32) (p2 : Int32) (p3 : Int32) (p4 : Option Nat) (S : xS) (z : Int32 × xS), f_L_find d p0 p1 p2 p3 p4 S = some z → ∀ (l : Launch) (D : xD), xMet l m_L_find D d [.inr (.inr p0), .inl p1, .inl p2, .inl p3, .inr (.inr p4)] S (cvI z) := by
  intro d
  induction d with
  | zero =>
    intro p0 p1 p2 p3 p4 S z h
    cases h
  | succ d ih =>
    intro p0 p1 p2 p3 p4 S z h l D
    exact x_ofV rfl (by decide) (Nat.le_of_ble_eq_true rfl) (te_L_find  p0 p1 p2 p3 p4 S z h)
set_option maxRecDepth 100000 in
set_option maxHeartbeats 4000000 in
theorem te_L_differ {D : xD} {d : Nat} {S0 : xS} : ∀ (p0 : Option Nat) (p1 : Int32) (p2 : Int32) (p3 : Option Nat) (S : xS) (z : Int32 × xS), e_L_differ d p0 p1 p2 p3 S = some z → V m_L_differ D (d + 1) S0 (cvI z) 0 [(0, .inr (.inr p0)), (1, .inl p1), (2, .inl p2), (3, .inr (.inr p3))] [] S := by
  intro p0 p1 p2 p3 S z h
  unfold e_L_differ at h
  refine x_aload_n 3 d_L_differ_0 rfl rfl ?_
  refine x_iconst (v := 0) d_L_differ_1 (by decide) ?_
  refine x_aload_n 0 d_L_differ_2 rfl rfl ?_
  refine x_iload_n 1 d_L_differ_3 rfl rfl ?_
  refine x_iload_n 2 d_L_differ_4 rfl rfl ?_
  refine x_callV' (M' := m_P_differ) (ax := [.inl p1, .inl p2]) (cv := cvT) (host := none) (st := [.int 0, va_rf p3]) h (fun q h l => s_P_differ d p0 p1 p2 S q h l D) hc_0 rfl d_L_differ_5 wm_L_50 wc_P_differ rfl (Nat.le_of_ble_eq_true rfl) (fun q1 h => ?_)
  refine x_tryI h (fun v2 h => ?_) (fun e h => ?_)
  · refine x_i2l d_L_differ_8 ?_
    refine x_last h ha_1 d_L_differ_9 (fun S3 h => ?_)
    refine x_goto (tgt := 17) d_L_differ_10 (by decide) ?_
    refine x_iconst (v := 0) d_L_differ_17 (by decide) ?_
    cases h
    exact x_iret rfl d_L_differ_18
  · by_cases e9_2 : e = 2
    · rw [if_pos e9_2] at h
      subst e9_2
      refine ⟨13, ⟨by decide, wq_2, [], 0, 10, 21, [], rfl, by decide, by decide, by decide, wg_L_21, fun q hq => absurd hq List.not_mem_nil⟩, fun a9 => ?_⟩
      refine x_astore (lv' := [(4, .inr (.inr (some a9))), (0, .inr (.inr p0)), (1, .inl p1), (2, .inl p2), (3, .inr (.inr p3))]) d_L_differ_13 (by decide) rfl ?_
      refine x_iconst (v := 1) d_L_differ_15 (by decide) ?_
      cases h
      exact x_iret rfl d_L_differ_16
    rw [if_neg e9_2] at h
    cases h
theorem s_L_differ : ∀ (d : Nat) (p0 : Option Nat) (p1 : Int32) (p2 : Int32) (p3 : Option Nat) (S : xS) (z : Int32 × xS), f_L_differ d p0 p1 p2 p3 S = some z → ∀ (l : Launch) (D : xD), xMet l m_L_differ D d [.inr (.inr p0), .inl p1, .inl p2, .inr (.inr p3)] S (cvI z) := by
  intro d
  induction d with
  | zero =>
    intro p0 p1 p2 p3 S z h
    cases h
  | succ d ih =>
    intro p0 p1 p2 p3 S z h l D
    exact x_ofV rfl (by decide) (Nat.le_of_ble_eq_true rfl) (te_L_differ  p0 p1 p2 p3 S z h)
set_option maxRecDepth 100000 in
set_option maxHeartbeats 4000000 in
theorem tb_L_law_1082 {D : xD} {d : Nat} {S0 : xS} {k23 : Option Nat → Option Nat → Option Nat → Int32 → xS → Option (Int32 × xS)} (hk23 : ∀ (x1 : Option Nat) (x2 : Option Nat) (x3 : Option Nat) (x4 : Int32)  (S : xS) (z : Int32 × xS), k23 x1 x2 x3 x4 S = some z → V m_L_law D (d + 1) S0 (cvI z) 23 [(0, .inr (.inr (some D.2.2.1))), (1, .inr (.inr x1)), (2, .inr (.inr x2)), (3, .inr (.inr x3)), (4, .inl x4)] [] S) : ∀ (x1 : Option Nat) (x2 : Option Nat) (x3 : Option Nat) (x4 : Int32) (S : xS) (z : Int32 × xS), b_L_law_1082 D.2.2 d k23 x1 x2 x3 x4 S = some z → V m_L_law D (d + 1) S0 (cvI z) 1082 [(0, .inr (.inr (some D.2.2.1))), (1, .inr (.inr x1)), (2, .inr (.inr x2)), (3, .inr (.inr x3)), (4, .inl x4)] [] S := by
  intro x1 x2 x3 x4 S z h
  unfold b_L_law_1082 at h
  refine x_iinc (v := 6) (lv' := [(4, .inl (x4 + 6)), (0, .inr (.inr (some D.2.2.1))), (1, .inr (.inr x1)), (2, .inr (.inr x2)), (3, .inr (.inr x3))]) 4 d_L_law_1082 rfl (by decide) (by decide) rfl ?_
  refine x_goto (tgt := 23) d_L_law_1085 (by decide) ?_
  refine x_ls [1, 2, 3, 4, 0] rfl ?_
  exact hk23 x1 x2 x3 (x4 + 6) S _ h
set_option maxRecDepth 100000 in
set_option maxHeartbeats 4000000 in
theorem tb_L_law_1054 {D : xD} {d : Nat} {S0 : xS} {k23 : Option Nat → Option Nat → Option Nat → Int32 → xS → Option (Int32 × xS)} (hk23 : ∀ (x1 : Option Nat) (x2 : Option Nat) (x3 : Option Nat) (x4 : Int32)  (S : xS) (z : Int32 × xS), k23 x1 x2 x3 x4 S = some z → V m_L_law D (d + 1) S0 (cvI z) 23 [(0, .inr (.inr (some D.2.2.1))), (1, .inr (.inr x1)), (2, .inr (.inr x2)), (3, .inr (.inr x3)), (4, .inl x4)] [] S) : ∀ (x1 : Option Nat) (x2 : Option Nat) (x3 : Option Nat) (x4 : Int32) (S : xS) (z : Int32 × xS), b_L_law_1054 D.2.2 d k23 x1 x2 x3 x4 S = some z → V m_L_law D (d + 1) S0 (cvI z) 1054 [(0, .inr (.inr (some D.2.2.1))), (1, .inr (.inr x1)), (2, .inr (.inr x2)), (3, .inr (.inr x3)), (4, .inl x4)] [] S := by
  intro x1 x2 x3 x4 S z h
  unfold b_L_law_1054 at h
  refine x_goto (tgt := 1082) d_L_law_1054 (by decide) ?_
  refine x_ls [0, 1, 2, 3, 4] rfl ?_
  exact tb_L_law_1082 hk23 x1 x2 x3 x4 S _ h
set_option maxRecDepth 100000 in
set_option maxHeartbeats 4000000 in
theorem tb_L_law_986 {D : xD} {d : Nat} {S0 : xS} {k23 : Option Nat → Option Nat → Option Nat → Int32 → xS → Option (Int32 × xS)} (hk23 : ∀ (x1 : Option Nat) (x2 : Option Nat) (x3 : Option Nat) (x4 : Int32)  (S : xS) (z : Int32 × xS), k23 x1 x2 x3 x4 S = some z → V m_L_law D (d + 1) S0 (cvI z) 23 [(0, .inr (.inr (some D.2.2.1))), (1, .inr (.inr x1)), (2, .inr (.inr x2)), (3, .inr (.inr x3)), (4, .inl x4)] [] S) : ∀ (x1 : Option Nat) (x2 : Option Nat) (x3 : Option Nat) (x4 : Int32) (S : xS) (z : Int32 × xS), b_L_law_986 D.2.2 d k23 x1 x2 x3 x4 S = some z → V m_L_law D (d + 1) S0 (cvI z) 986 [(0, .inr (.inr (some D.2.2.1))), (1, .inr (.inr x1)), (2, .inr (.inr x2)), (3, .inr (.inr x3)), (4, .inl x4)] [] S := by
  intro x1 x2 x3 x4 S z h
  unfold b_L_law_986 at h
  refine x_goto (tgt := 1082) d_L_law_986 (by decide) ?_
  refine x_ls [0, 1, 2, 3, 4] rfl ?_
  exact tb_L_law_1082 hk23 x1 x2 x3 x4 S _ h
set_option maxRecDepth 100000 in
set_option maxHeartbeats 4000000 in
theorem tb_L_law_906 {D : xD} {d : Nat} {S0 : xS} {k23 : Option Nat → Option Nat → Option Nat → Int32 → xS → Option (Int32 × xS)} (hk23 : ∀ (x1 : Option Nat) (x2 : Option Nat) (x3 : Option Nat) (x4 : Int32)  (S : xS) (z : Int32 × xS), k23 x1 x2 x3 x4 S = some z → V m_L_law D (d + 1) S0 (cvI z) 23 [(0, .inr (.inr (some D.2.2.1))), (1, .inr (.inr x1)), (2, .inr (.inr x2)), (3, .inr (.inr x3)), (4, .inl x4)] [] S) : ∀ (x1 : Option Nat) (x2 : Option Nat) (x3 : Option Nat) (x4 : Int32) (S : xS) (z : Int32 × xS), b_L_law_906 D.2.2 d k23 x1 x2 x3 x4 S = some z → V m_L_law D (d + 1) S0 (cvI z) 906 [(0, .inr (.inr (some D.2.2.1))), (1, .inr (.inr x1)), (2, .inr (.inr x2)), (3, .inr (.inr x3)), (4, .inl x4)] [] S := by
  intro x1 x2 x3 x4 S z h
  unfold b_L_law_906 at h
  refine x_goto (tgt := 1082) d_L_law_906 (by decide) ?_
  refine x_ls [0, 1, 2, 3, 4] rfl ?_
  exact tb_L_law_1082 hk23 x1 x2 x3 x4 S _ h
set_option maxRecDepth 100000 in
set_option maxHeartbeats 4000000 in
theorem tb_L_law_826 {D : xD} {d : Nat} {S0 : xS} {k23 : Option Nat → Option Nat → Option Nat → Int32 → xS → Option (Int32 × xS)} (hk23 : ∀ (x1 : Option Nat) (x2 : Option Nat) (x3 : Option Nat) (x4 : Int32)  (S : xS) (z : Int32 × xS), k23 x1 x2 x3 x4 S = some z → V m_L_law D (d + 1) S0 (cvI z) 23 [(0, .inr (.inr (some D.2.2.1))), (1, .inr (.inr x1)), (2, .inr (.inr x2)), (3, .inr (.inr x3)), (4, .inl x4)] [] S) : ∀ (x1 : Option Nat) (x2 : Option Nat) (x3 : Option Nat) (x4 : Int32) (S : xS) (z : Int32 × xS), b_L_law_826 D.2.2 d k23 x1 x2 x3 x4 S = some z → V m_L_law D (d + 1) S0 (cvI z) 826 [(0, .inr (.inr (some D.2.2.1))), (1, .inr (.inr x1)), (2, .inr (.inr x2)), (3, .inr (.inr x3)), (4, .inl x4)] [] S := by
  intro x1 x2 x3 x4 S z h
  unfold b_L_law_826 at h
  refine x_goto (tgt := 1082) d_L_law_826 (by decide) ?_
  refine x_ls [0, 1, 2, 3, 4] rfl ?_
  exact tb_L_law_1082 hk23 x1 x2 x3 x4 S _ h
set_option maxRecDepth 100000 in
set_option maxHeartbeats 4000000 in
theorem tb_L_law_721 {D : xD} {d : Nat} {S0 : xS} {k23 : Option Nat → Option Nat → Option Nat → Int32 → xS → Option (Int32 × xS)} (hk23 : ∀ (x1 : Option Nat) (x2 : Option Nat) (x3 : Option Nat) (x4 : Int32)  (S : xS) (z : Int32 × xS), k23 x1 x2 x3 x4 S = some z → V m_L_law D (d + 1) S0 (cvI z) 23 [(0, .inr (.inr (some D.2.2.1))), (1, .inr (.inr x1)), (2, .inr (.inr x2)), (3, .inr (.inr x3)), (4, .inl x4)] [] S) : ∀ (x1 : Option Nat) (x2 : Option Nat) (x3 : Option Nat) (x4 : Int32) (S : xS) (z : Int32 × xS), b_L_law_721 D.2.2 d k23 x1 x2 x3 x4 S = some z → V m_L_law D (d + 1) S0 (cvI z) 721 [(0, .inr (.inr (some D.2.2.1))), (1, .inr (.inr x1)), (2, .inr (.inr x2)), (3, .inr (.inr x3)), (4, .inl x4)] [] S := by
  intro x1 x2 x3 x4 S z h
  unfold b_L_law_721 at h
  refine x_goto (tgt := 1082) d_L_law_721 (by decide) ?_
  refine x_ls [0, 1, 2, 3, 4] rfl ?_
  exact tb_L_law_1082 hk23 x1 x2 x3 x4 S _ h
set_option maxRecDepth 100000 in
set_option maxHeartbeats 4000000 in
theorem tb_L_law_665 {D : xD} {d : Nat} {S0 : xS} {k23 : Option Nat → Option Nat → Option Nat → Int32 → xS → Option (Int32 × xS)} (hk23 : ∀ (x1 : Option Nat) (x2 : Option Nat) (x3 : Option Nat) (x4 : Int32)  (S : xS) (z : Int32 × xS), k23 x1 x2 x3 x4 S = some z → V m_L_law D (d + 1) S0 (cvI z) 23 [(0, .inr (.inr (some D.2.2.1))), (1, .inr (.inr x1)), (2, .inr (.inr x2)), (3, .inr (.inr x3)), (4, .inl x4)] [] S) : ∀ (x1 : Option Nat) (x2 : Option Nat) (x3 : Option Nat) (x4 : Int32) (S : xS) (z : Int32 × xS), b_L_law_665 D.2.2 d k23 x1 x2 x3 x4 S = some z → V m_L_law D (d + 1) S0 (cvI z) 665 [(0, .inr (.inr (some D.2.2.1))), (1, .inr (.inr x1)), (2, .inr (.inr x2)), (3, .inr (.inr x3)), (4, .inl x4)] [] S := by
  intro x1 x2 x3 x4 S z h
  unfold b_L_law_665 at h
  refine x_goto (tgt := 1082) d_L_law_665 (by decide) ?_
  refine x_ls [0, 1, 2, 3, 4] rfl ?_
  exact tb_L_law_1082 hk23 x1 x2 x3 x4 S _ h
set_option maxRecDepth 100000 in
set_option maxHeartbeats 4000000 in
theorem tb_L_law_561 {D : xD} {d : Nat} {S0 : xS} {k23 : Option Nat → Option Nat → Option Nat → Int32 → xS → Option (Int32 × xS)} (hk23 : ∀ (x1 : Option Nat) (x2 : Option Nat) (x3 : Option Nat) (x4 : Int32)  (S : xS) (z : Int32 × xS), k23 x1 x2 x3 x4 S = some z → V m_L_law D (d + 1) S0 (cvI z) 23 [(0, .inr (.inr (some D.2.2.1))), (1, .inr (.inr x1)), (2, .inr (.inr x2)), (3, .inr (.inr x3)), (4, .inl x4)] [] S) : ∀ (x1 : Option Nat) (x2 : Option Nat) (x3 : Option Nat) (x4 : Int32) (S : xS) (z : Int32 × xS), b_L_law_561 D.2.2 d k23 x1 x2 x3 x4 S = some z → V m_L_law D (d + 1) S0 (cvI z) 561 [(0, .inr (.inr (some D.2.2.1))), (1, .inr (.inr x1)), (2, .inr (.inr x2)), (3, .inr (.inr x3)), (4, .inl x4)] [] S := by
  intro x1 x2 x3 x4 S z h
  unfold b_L_law_561 at h
  refine x_goto (tgt := 1082) d_L_law_561 (by decide) ?_
  refine x_ls [0, 1, 2, 3, 4] rfl ?_
  exact tb_L_law_1082 hk23 x1 x2 x3 x4 S _ h
set_option maxRecDepth 100000 in
set_option maxHeartbeats 4000000 in
theorem tb_L_law_469 {D : xD} {d : Nat} {S0 : xS} {k23 : Option Nat → Option Nat → Option Nat → Int32 → xS → Option (Int32 × xS)} (hk23 : ∀ (x1 : Option Nat) (x2 : Option Nat) (x3 : Option Nat) (x4 : Int32)  (S : xS) (z : Int32 × xS), k23 x1 x2 x3 x4 S = some z → V m_L_law D (d + 1) S0 (cvI z) 23 [(0, .inr (.inr (some D.2.2.1))), (1, .inr (.inr x1)), (2, .inr (.inr x2)), (3, .inr (.inr x3)), (4, .inl x4)] [] S) : ∀ (x1 : Option Nat) (x2 : Option Nat) (x3 : Option Nat) (x4 : Int32) (S : xS) (z : Int32 × xS), b_L_law_469 D.2.2 d k23 x1 x2 x3 x4 S = some z → V m_L_law D (d + 1) S0 (cvI z) 469 [(0, .inr (.inr (some D.2.2.1))), (1, .inr (.inr x1)), (2, .inr (.inr x2)), (3, .inr (.inr x3)), (4, .inl x4)] [] S := by
  intro x1 x2 x3 x4 S z h
  unfold b_L_law_469 at h
  refine x_goto (tgt := 1082) d_L_law_469 (by decide) ?_
  refine x_ls [0, 1, 2, 3, 4] rfl ?_
  exact tb_L_law_1082 hk23 x1 x2 x3 x4 S _ h
set_option maxRecDepth 100000 in
set_option maxHeartbeats 4000000 in
theorem tb_L_law_389 {D : xD} {d : Nat} {S0 : xS} {k23 : Option Nat → Option Nat → Option Nat → Int32 → xS → Option (Int32 × xS)} (hk23 : ∀ (x1 : Option Nat) (x2 : Option Nat) (x3 : Option Nat) (x4 : Int32)  (S : xS) (z : Int32 × xS), k23 x1 x2 x3 x4 S = some z → V m_L_law D (d + 1) S0 (cvI z) 23 [(0, .inr (.inr (some D.2.2.1))), (1, .inr (.inr x1)), (2, .inr (.inr x2)), (3, .inr (.inr x3)), (4, .inl x4)] [] S) : ∀ (x1 : Option Nat) (x2 : Option Nat) (x3 : Option Nat) (x4 : Int32) (S : xS) (z : Int32 × xS), b_L_law_389 D.2.2 d k23 x1 x2 x3 x4 S = some z → V m_L_law D (d + 1) S0 (cvI z) 389 [(0, .inr (.inr (some D.2.2.1))), (1, .inr (.inr x1)), (2, .inr (.inr x2)), (3, .inr (.inr x3)), (4, .inl x4)] [] S := by
  intro x1 x2 x3 x4 S z h
  unfold b_L_law_389 at h
  refine x_goto (tgt := 1082) d_L_law_389 (by decide) ?_
  refine x_ls [0, 1, 2, 3, 4] rfl ?_
  exact tb_L_law_1082 hk23 x1 x2 x3 x4 S _ h
set_option maxRecDepth 100000 in
set_option maxHeartbeats 4000000 in
theorem tb_L_law_297 {D : xD} {d : Nat} {S0 : xS} {k23 : Option Nat → Option Nat → Option Nat → Int32 → xS → Option (Int32 × xS)} (hk23 : ∀ (x1 : Option Nat) (x2 : Option Nat) (x3 : Option Nat) (x4 : Int32)  (S : xS) (z : Int32 × xS), k23 x1 x2 x3 x4 S = some z → V m_L_law D (d + 1) S0 (cvI z) 23 [(0, .inr (.inr (some D.2.2.1))), (1, .inr (.inr x1)), (2, .inr (.inr x2)), (3, .inr (.inr x3)), (4, .inl x4)] [] S) : ∀ (x1 : Option Nat) (x2 : Option Nat) (x3 : Option Nat) (x4 : Int32) (S : xS) (z : Int32 × xS), b_L_law_297 D.2.2 d k23 x1 x2 x3 x4 S = some z → V m_L_law D (d + 1) S0 (cvI z) 297 [(0, .inr (.inr (some D.2.2.1))), (1, .inr (.inr x1)), (2, .inr (.inr x2)), (3, .inr (.inr x3)), (4, .inl x4)] [] S := by
  intro x1 x2 x3 x4 S z h
  unfold b_L_law_297 at h
  refine x_goto (tgt := 1082) d_L_law_297 (by decide) ?_
  refine x_ls [0, 1, 2, 3, 4] rfl ?_
  exact tb_L_law_1082 hk23 x1 x2 x3 x4 S _ h
set_option maxRecDepth 100000 in
set_option maxHeartbeats 4000000 in
theorem tb_L_law_193 {D : xD} {d : Nat} {S0 : xS} {k23 : Option Nat → Option Nat → Option Nat → Int32 → xS → Option (Int32 × xS)} (hk23 : ∀ (x1 : Option Nat) (x2 : Option Nat) (x3 : Option Nat) (x4 : Int32)  (S : xS) (z : Int32 × xS), k23 x1 x2 x3 x4 S = some z → V m_L_law D (d + 1) S0 (cvI z) 23 [(0, .inr (.inr (some D.2.2.1))), (1, .inr (.inr x1)), (2, .inr (.inr x2)), (3, .inr (.inr x3)), (4, .inl x4)] [] S) : ∀ (x1 : Option Nat) (x2 : Option Nat) (x3 : Option Nat) (x4 : Int32) (S : xS) (z : Int32 × xS), b_L_law_193 D.2.2 d k23 x1 x2 x3 x4 S = some z → V m_L_law D (d + 1) S0 (cvI z) 193 [(0, .inr (.inr (some D.2.2.1))), (1, .inr (.inr x1)), (2, .inr (.inr x2)), (3, .inr (.inr x3)), (4, .inl x4)] [] S := by
  intro x1 x2 x3 x4 S z h
  unfold b_L_law_193 at h
  refine x_goto (tgt := 1082) d_L_law_193 (by decide) ?_
  refine x_ls [0, 1, 2, 3, 4] rfl ?_
  exact tb_L_law_1082 hk23 x1 x2 x3 x4 S _ h
set_option maxRecDepth 100000 in
set_option maxHeartbeats 4000000 in
theorem tb_L_law_23 {D : xD} {d : Nat} {S0 : xS} {k23 : Option Nat → Option Nat → Option Nat → Int32 → xS → Option (Int32 × xS)} (hk23 : ∀ (x1 : Option Nat) (x2 : Option Nat) (x3 : Option Nat) (x4 : Int32)  (S : xS) (z : Int32 × xS), k23 x1 x2 x3 x4 S = some z → V m_L_law D (d + 1) S0 (cvI z) 23 [(0, .inr (.inr (some D.2.2.1))), (1, .inr (.inr x1)), (2, .inr (.inr x2)), (3, .inr (.inr x3)), (4, .inl x4)] [] S) : ∀ (x1 : Option Nat) (x2 : Option Nat) (x3 : Option Nat) (x4 : Int32) (S : xS) (z : Int32 × xS), b_L_law_23 D.2.2 d k23 x1 x2 x3 x4 S = some z → V m_L_law D (d + 1) S0 (cvI z) 23 [(0, .inr (.inr (some D.2.2.1))), (1, .inr (.inr x1)), (2, .inr (.inr x2)), (3, .inr (.inr x3)), (4, .inl x4)] [] S := by
  intro x1 x2 x3 x4 S z h
  unfold b_L_law_23 at h
  refine x_iload 4 d_L_law_23 rfl ?_
  refine x_aload_n 0 d_L_law_25 rfl rfl ?_
  refine x_slen rfl d_L_law_26 ?_
  refine x_bipush (v := 6) d_L_law_27 (by decide) ?_
  refine x_isub d_L_law_29 ?_
  refine x_icmp_gt (tgt := 1088) d_L_law_30 (by decide) h (fun h => ?_) (fun h => ?_)
  · refine x_iconst (v := 1) d_L_law_1088 (by decide) ?_
    exact x_zretI h rfl d_L_law_1089
  · refine x_aload_n 0 d_L_law_33 rfl rfl ?_
    refine x_iload 4 d_L_law_34 rfl ?_
    refine x_sld rfl h d_L_law_36 (fun v1 h => ?_)
    refine x_bipush (v := 15) d_L_law_37 (by decide) ?_
    refine x_iand d_L_law_39 ?_
    by_cases e0 : (v1 &&& 15) = 0
    · rw [if_pos e0] at h
      refine x_tabIn (k := 0) (tgt := 108) d_L_law_40 e0 (by decide) (by decide) rfl (by decide) ?_
      refine x_aload_n 1 d_L_law_108 rfl rfl ?_
      refine x_aload_n 0 d_L_law_109 rfl rfl ?_
      refine x_iload 4 d_L_law_110 rfl ?_
      refine x_iconst (v := 1) d_L_law_112 (by decide) ?_
      refine x_iadd d_L_law_113 ?_
      refine x_sld rfl h d_L_law_114 (fun v2 h => ?_)
      refine x_i2l d_L_law_115 ?_
      refine x_bipush (v := 32) d_L_law_116 (by decide) ?_
      refine x_lshl d_L_law_118 ?_
      refine x_aload_n 0 d_L_law_119 rfl rfl ?_
      refine x_iload 4 d_L_law_120 rfl ?_
      refine x_iconst (v := 2) d_L_law_122 (by decide) ?_
      refine x_iadd d_L_law_123 ?_
      refine x_sld rfl h d_L_law_124 (fun v3 h => ?_)
      refine x_i2l d_L_law_125 ?_
      refine x_ldc2 (v := 4294967295) d_L_law_126 wl_L_58 ?_
      refine x_land d_L_law_129 ?_
      refine x_lor d_L_law_130 ?_
      refine x_aload_n 3 d_L_law_131 rfl rfl ?_
      refine x_callS' (M' := m_L_write) (ax := [.inr (.inr x1), .inr (.inl ((v2.toInt64 <<< ((32 : Int32).toInt64 &&& 63)) ||| (v3.toInt64 &&& ((4294967295 : Int64))))), .inr (.inr x3)]) (cv := cvI) (host := none) (st := []) h (fun q h l => s_L_write d x1 ((v2.toInt64 <<< ((32 : Int32).toInt64 &&& 63)) ||| (v3.toInt64 &&& ((4294967295 : Int64)))) x3 S q h l D) rfl d_L_law_132 wm_L_60 wc_L_write rfl (Nat.le_of_ble_eq_true rfl) (fun q4 h => ?_)
      show V _ _ _ _ _ _ _ (.int q4.1 :: []) _
      refine x_istore (lv' := [(5, .inl q4.1), (0, .inr (.inr (some D.2.2.1))), (1, .inr (.inr x1)), (2, .inr (.inr x2)), (3, .inr (.inr x3)), (4, .inl x4)]) d_L_law_135 (by decide) rfl ?_
      refine x_aload_n 3 d_L_law_137 rfl rfl ?_
      refine x_aload_n 1 d_L_law_138 rfl rfl ?_
      refine x_iload 5 d_L_law_139 rfl ?_
      refine x_iconst (v := 1) d_L_law_141 (by decide) ?_
      refine x_iadd d_L_law_142 ?_
      refine x_sld rfl h d_L_law_143 (fun v5 h => ?_)
      refine x_i2l d_L_law_144 ?_
      refine x_bipush (v := 32) d_L_law_145 (by decide) ?_
      refine x_lshl d_L_law_147 ?_
      refine x_aload_n 1 d_L_law_148 rfl rfl ?_
      refine x_iload 5 d_L_law_149 rfl ?_
      refine x_iconst (v := 2) d_L_law_151 (by decide) ?_
      refine x_iadd d_L_law_152 ?_
      refine x_sld rfl h d_L_law_153 (fun v6 h => ?_)
      refine x_i2l d_L_law_154 ?_
      refine x_ldc2 (v := 4294967295) d_L_law_155 wl_L_58 ?_
      refine x_land d_L_law_158 ?_
      refine x_lor d_L_law_159 ?_
      refine x_callV' (M' := m_M_write) (ax := [.inr (.inl ((v5.toInt64 <<< ((32 : Int32).toInt64 &&& 63)) ||| (v6.toInt64 &&& ((4294967295 : Int64)))))]) (cv := cvI) (host := none) (st := []) h (fun q h l => s_M_write d x2 ((v5.toInt64 <<< ((32 : Int32).toInt64 &&& 63)) ||| (v6.toInt64 &&& ((4294967295 : Int64)))) q4.2 q h l D) hc_5 rfl d_L_law_160 wm_L_65 wc_M_write rfl (Nat.le_of_ble_eq_true rfl) (fun q7 h => ?_)
      show V _ _ _ _ _ _ _ (.int q7.1 :: []) _
      refine x_istore (lv' := [(6, .inl q7.1), (5, .inl q4.1), (0, .inr (.inr (some D.2.2.1))), (1, .inr (.inr x1)), (2, .inr (.inr x2)), (3, .inr (.inr x3)), (4, .inl x4)]) d_L_law_163 (by decide) rfl ?_
      refine x_aload_n 4 d_L_law_165 rfl rfl ?_
      refine x_callV' (M' := m_M_thrown) (ax := []) (cv := cvI) (host := none) (st := []) h (fun q h l => s_M_thrown d x2 q7.2 q h l D) hc_5 rfl d_L_law_166 wm_L_66 wc_M_thrown rfl (Nat.le_of_ble_eq_true rfl) (fun q8 h => ?_)
      show V _ _ _ _ _ _ _ (.int q8.1 :: []) _
      refine x_iload 1 d_L_law_169 rfl ?_
      refine x_icmp_eq (tgt := 176) d_L_law_171 (by decide) h (fun h => ?_) (fun h => ?_)
      · refine x_iload 1 d_L_law_176 rfl ?_
        refine x_if_ne (tgt := 193) d_L_law_178 (by decide) h (fun h => ?_) (fun h => ?_)
        · refine x_ls [2, 3, 4, 5, 6] rfl ?_
          exact tb_L_law_193 hk23 x1 x2 x3 x4 q8.2 _ h
        · refine x_aload_n 5 d_L_law_181 rfl rfl ?_
          refine x_iconst (v := 0) d_L_law_182 (by decide) ?_
          refine x_lald h ha_1 d_L_law_183 (fun v9 h => ?_)
          refine x_iload 0 d_L_law_184 rfl ?_
          refine x_i2l d_L_law_186 ?_
          refine x_lcmp d_L_law_187 ?_
          refine x_if_eq (tgt := 193) d_L_law_188 (by decide) h (fun h => ?_) (fun h => ?_)
          · refine x_ls [2, 3, 4, 5, 6] rfl ?_
            exact tb_L_law_193 hk23 x1 x2 x3 x4 q8.2 _ h
          · refine x_iconst (v := 0) d_L_law_191 (by decide) ?_
            exact x_zretI h rfl d_L_law_192
      · refine x_iconst (v := 0) d_L_law_174 (by decide) ?_
        exact x_zretI h rfl d_L_law_175
    rw [if_neg e0] at h
    by_cases e1 : (v1 &&& 15) = 1
    · rw [if_pos e1] at h
      refine x_tabIn (k := 1) (tgt := 196) d_L_law_40 e1 (by decide) (by decide) rfl (by decide) ?_
      refine x_aload_n 1 d_L_law_196 rfl rfl ?_
      refine x_aload_n 0 d_L_law_197 rfl rfl ?_
      refine x_iload 4 d_L_law_198 rfl ?_
      refine x_iconst (v := 1) d_L_law_200 (by decide) ?_
      refine x_iadd d_L_law_201 ?_
      refine x_sld rfl h d_L_law_202 (fun v10 h => ?_)
      refine x_aload_n 0 d_L_law_203 rfl rfl ?_
      refine x_iload 4 d_L_law_204 rfl ?_
      refine x_iconst (v := 2) d_L_law_206 (by decide) ?_
      refine x_iadd d_L_law_207 ?_
      refine x_sld rfl h d_L_law_208 (fun v11 h => ?_)
      refine x_aload_n 0 d_L_law_209 rfl rfl ?_
      refine x_iload 4 d_L_law_210 rfl ?_
      refine x_iconst (v := 3) d_L_law_212 (by decide) ?_
      refine x_iadd d_L_law_213 ?_
      refine x_sld rfl h d_L_law_214 (fun v12 h => ?_)
      refine x_aload_n 0 d_L_law_215 rfl rfl ?_
      refine x_iload 4 d_L_law_216 rfl ?_
      refine x_iconst (v := 4) d_L_law_218 (by decide) ?_
      refine x_iadd d_L_law_219 ?_
      refine x_sld rfl h d_L_law_220 (fun v13 h => ?_)
      refine x_aload_n 0 d_L_law_221 rfl rfl ?_
      refine x_iload 4 d_L_law_222 rfl ?_
      refine x_iconst (v := 5) d_L_law_224 (by decide) ?_
      refine x_iadd d_L_law_225 ?_
      refine x_sld rfl h d_L_law_226 (fun v14 h => ?_)
      refine x_aload_n 3 d_L_law_227 rfl rfl ?_
      refine x_callS' (M' := m_L_put) (ax := [.inr (.inr x1), .inl v10, .inl v11, .inl v12, .inl v13, .inl v14, .inr (.inr x3)]) (cv := cvI) (host := none) (st := []) h (fun q h l => s_L_put d x1 v10 v11 v12 v13 v14 x3 S q h l D) rfl d_L_law_228 wm_L_70 wc_L_put rfl (Nat.le_of_ble_eq_true rfl) (fun q15 h => ?_)
      show V _ _ _ _ _ _ _ (.int q15.1 :: []) _
      refine x_istore (lv' := [(5, .inl q15.1), (0, .inr (.inr (some D.2.2.1))), (1, .inr (.inr x1)), (2, .inr (.inr x2)), (3, .inr (.inr x3)), (4, .inl x4)]) d_L_law_231 (by decide) rfl ?_
      refine x_aload_n 3 d_L_law_233 rfl rfl ?_
      refine x_aload_n 1 d_L_law_234 rfl rfl ?_
      refine x_iload 5 d_L_law_235 rfl ?_
      refine x_iconst (v := 1) d_L_law_237 (by decide) ?_
      refine x_iadd d_L_law_238 ?_
      refine x_sld rfl h d_L_law_239 (fun v16 h => ?_)
      refine x_aload_n 1 d_L_law_240 rfl rfl ?_
      refine x_iload 5 d_L_law_241 rfl ?_
      refine x_iconst (v := 2) d_L_law_243 (by decide) ?_
      refine x_iadd d_L_law_244 ?_
      refine x_sld rfl h d_L_law_245 (fun v17 h => ?_)
      refine x_aload_n 1 d_L_law_246 rfl rfl ?_
      refine x_iload 5 d_L_law_247 rfl ?_
      refine x_iconst (v := 3) d_L_law_249 (by decide) ?_
      refine x_iadd d_L_law_250 ?_
      refine x_sld rfl h d_L_law_251 (fun v18 h => ?_)
      refine x_aload_n 1 d_L_law_252 rfl rfl ?_
      refine x_iload 5 d_L_law_253 rfl ?_
      refine x_iconst (v := 4) d_L_law_255 (by decide) ?_
      refine x_iadd d_L_law_256 ?_
      refine x_sld rfl h d_L_law_257 (fun v19 h => ?_)
      refine x_aload_n 1 d_L_law_258 rfl rfl ?_
      refine x_iload 5 d_L_law_259 rfl ?_
      refine x_iconst (v := 5) d_L_law_261 (by decide) ?_
      refine x_iadd d_L_law_262 ?_
      refine x_sld rfl h d_L_law_263 (fun v20 h => ?_)
      refine x_callV' (M' := m_M_put) (ax := [.inl v16, .inl v17, .inl v18, .inl v19, .inl v20]) (cv := cvI) (host := none) (st := []) h (fun q h l => s_M_put d x2 v16 v17 v18 v19 v20 q15.2 q h l D) hc_5 rfl d_L_law_264 wm_L_73 wc_M_put rfl (Nat.le_of_ble_eq_true rfl) (fun q21 h => ?_)
      show V _ _ _ _ _ _ _ (.int q21.1 :: []) _
      refine x_istore (lv' := [(6, .inl q21.1), (5, .inl q15.1), (0, .inr (.inr (some D.2.2.1))), (1, .inr (.inr x1)), (2, .inr (.inr x2)), (3, .inr (.inr x3)), (4, .inl x4)]) d_L_law_267 (by decide) rfl ?_
      refine x_aload_n 4 d_L_law_269 rfl rfl ?_
      refine x_callV' (M' := m_M_thrown) (ax := []) (cv := cvI) (host := none) (st := []) h (fun q h l => s_M_thrown d x2 q21.2 q h l D) hc_5 rfl d_L_law_270 wm_L_66 wc_M_thrown rfl (Nat.le_of_ble_eq_true rfl) (fun q22 h => ?_)
      show V _ _ _ _ _ _ _ (.int q22.1 :: []) _
      refine x_iload 1 d_L_law_273 rfl ?_
      refine x_icmp_eq (tgt := 280) d_L_law_275 (by decide) h (fun h => ?_) (fun h => ?_)
      · refine x_iload 1 d_L_law_280 rfl ?_
        refine x_if_ne (tgt := 297) d_L_law_282 (by decide) h (fun h => ?_) (fun h => ?_)
        · refine x_ls [2, 3, 4, 5, 6] rfl ?_
          exact tb_L_law_297 hk23 x1 x2 x3 x4 q22.2 _ h
        · refine x_aload_n 5 d_L_law_285 rfl rfl ?_
          refine x_iconst (v := 0) d_L_law_286 (by decide) ?_
          refine x_lald h ha_1 d_L_law_287 (fun v23 h => ?_)
          refine x_iload 0 d_L_law_288 rfl ?_
          refine x_i2l d_L_law_290 ?_
          refine x_lcmp d_L_law_291 ?_
          refine x_if_eq (tgt := 297) d_L_law_292 (by decide) h (fun h => ?_) (fun h => ?_)
          · refine x_ls [2, 3, 4, 5, 6] rfl ?_
            exact tb_L_law_297 hk23 x1 x2 x3 x4 q22.2 _ h
          · refine x_iconst (v := 0) d_L_law_295 (by decide) ?_
            exact x_zretI h rfl d_L_law_296
      · refine x_iconst (v := 0) d_L_law_278 (by decide) ?_
        exact x_zretI h rfl d_L_law_279
    rw [if_neg e1] at h
    by_cases e2 : (v1 &&& 15) = 2
    · rw [if_pos e2] at h
      refine x_tabIn (k := 2) (tgt := 300) d_L_law_40 e2 (by decide) (by decide) rfl (by decide) ?_
      refine x_aload_n 1 d_L_law_300 rfl rfl ?_
      refine x_aload_n 0 d_L_law_301 rfl rfl ?_
      refine x_iload 4 d_L_law_302 rfl ?_
      refine x_iconst (v := 1) d_L_law_304 (by decide) ?_
      refine x_iadd d_L_law_305 ?_
      refine x_sld rfl h d_L_law_306 (fun v24 h => ?_)
      refine x_aload_n 0 d_L_law_307 rfl rfl ?_
      refine x_iload 4 d_L_law_308 rfl ?_
      refine x_iconst (v := 2) d_L_law_310 (by decide) ?_
      refine x_iadd d_L_law_311 ?_
      refine x_sld rfl h d_L_law_312 (fun v25 h => ?_)
      refine x_aload_n 0 d_L_law_313 rfl rfl ?_
      refine x_iload 4 d_L_law_314 rfl ?_
      refine x_iconst (v := 3) d_L_law_316 (by decide) ?_
      refine x_iadd d_L_law_317 ?_
      refine x_sld rfl h d_L_law_318 (fun v26 h => ?_)
      refine x_aload_n 0 d_L_law_319 rfl rfl ?_
      refine x_iload 4 d_L_law_320 rfl ?_
      refine x_iconst (v := 4) d_L_law_322 (by decide) ?_
      refine x_iadd d_L_law_323 ?_
      refine x_sld rfl h d_L_law_324 (fun v27 h => ?_)
      refine x_aload_n 3 d_L_law_325 rfl rfl ?_
      refine x_callS' (M' := m_L_cut) (ax := [.inr (.inr x1), .inl v24, .inl v25, .inl v26, .inl v27, .inr (.inr x3)]) (cv := cvI) (host := none) (st := []) h (fun q h l => s_L_cut d x1 v24 v25 v26 v27 x3 S q h l D) rfl d_L_law_326 wm_L_74 wc_L_cut rfl (Nat.le_of_ble_eq_true rfl) (fun q28 h => ?_)
      show V _ _ _ _ _ _ _ (.int q28.1 :: []) _
      refine x_istore (lv' := [(5, .inl q28.1), (0, .inr (.inr (some D.2.2.1))), (1, .inr (.inr x1)), (2, .inr (.inr x2)), (3, .inr (.inr x3)), (4, .inl x4)]) d_L_law_329 (by decide) rfl ?_
      refine x_aload_n 3 d_L_law_331 rfl rfl ?_
      refine x_aload_n 1 d_L_law_332 rfl rfl ?_
      refine x_iload 5 d_L_law_333 rfl ?_
      refine x_iconst (v := 1) d_L_law_335 (by decide) ?_
      refine x_iadd d_L_law_336 ?_
      refine x_sld rfl h d_L_law_337 (fun v29 h => ?_)
      refine x_aload_n 1 d_L_law_338 rfl rfl ?_
      refine x_iload 5 d_L_law_339 rfl ?_
      refine x_iconst (v := 2) d_L_law_341 (by decide) ?_
      refine x_iadd d_L_law_342 ?_
      refine x_sld rfl h d_L_law_343 (fun v30 h => ?_)
      refine x_aload_n 1 d_L_law_344 rfl rfl ?_
      refine x_iload 5 d_L_law_345 rfl ?_
      refine x_iconst (v := 3) d_L_law_347 (by decide) ?_
      refine x_iadd d_L_law_348 ?_
      refine x_sld rfl h d_L_law_349 (fun v31 h => ?_)
      refine x_aload_n 1 d_L_law_350 rfl rfl ?_
      refine x_iload 5 d_L_law_351 rfl ?_
      refine x_iconst (v := 4) d_L_law_353 (by decide) ?_
      refine x_iadd d_L_law_354 ?_
      refine x_sld rfl h d_L_law_355 (fun v32 h => ?_)
      refine x_callV' (M' := m_M_cut) (ax := [.inl v29, .inl v30, .inl v31, .inl v32]) (cv := cvI) (host := none) (st := []) h (fun q h l => s_M_cut d x2 v29 v30 v31 v32 q28.2 q h l D) hc_5 rfl d_L_law_356 wm_L_77 wc_M_cut rfl (Nat.le_of_ble_eq_true rfl) (fun q33 h => ?_)
      show V _ _ _ _ _ _ _ (.int q33.1 :: []) _
      refine x_istore (lv' := [(6, .inl q33.1), (5, .inl q28.1), (0, .inr (.inr (some D.2.2.1))), (1, .inr (.inr x1)), (2, .inr (.inr x2)), (3, .inr (.inr x3)), (4, .inl x4)]) d_L_law_359 (by decide) rfl ?_
      refine x_aload_n 4 d_L_law_361 rfl rfl ?_
      refine x_callV' (M' := m_M_thrown) (ax := []) (cv := cvI) (host := none) (st := []) h (fun q h l => s_M_thrown d x2 q33.2 q h l D) hc_5 rfl d_L_law_362 wm_L_66 wc_M_thrown rfl (Nat.le_of_ble_eq_true rfl) (fun q34 h => ?_)
      show V _ _ _ _ _ _ _ (.int q34.1 :: []) _
      refine x_iload 1 d_L_law_365 rfl ?_
      refine x_icmp_eq (tgt := 372) d_L_law_367 (by decide) h (fun h => ?_) (fun h => ?_)
      · refine x_iload 1 d_L_law_372 rfl ?_
        refine x_if_ne (tgt := 389) d_L_law_374 (by decide) h (fun h => ?_) (fun h => ?_)
        · refine x_ls [2, 3, 4, 5, 6] rfl ?_
          exact tb_L_law_389 hk23 x1 x2 x3 x4 q34.2 _ h
        · refine x_aload_n 5 d_L_law_377 rfl rfl ?_
          refine x_iconst (v := 0) d_L_law_378 (by decide) ?_
          refine x_lald h ha_1 d_L_law_379 (fun v35 h => ?_)
          refine x_iload 0 d_L_law_380 rfl ?_
          refine x_i2l d_L_law_382 ?_
          refine x_lcmp d_L_law_383 ?_
          refine x_if_eq (tgt := 389) d_L_law_384 (by decide) h (fun h => ?_) (fun h => ?_)
          · refine x_ls [2, 3, 4, 5, 6] rfl ?_
            exact tb_L_law_389 hk23 x1 x2 x3 x4 q34.2 _ h
          · refine x_iconst (v := 0) d_L_law_387 (by decide) ?_
            exact x_zretI h rfl d_L_law_388
      · refine x_iconst (v := 0) d_L_law_370 (by decide) ?_
        exact x_zretI h rfl d_L_law_371
    rw [if_neg e2] at h
    by_cases e3 : (v1 &&& 15) = 3
    · rw [if_pos e3] at h
      refine x_tabIn (k := 3) (tgt := 392) d_L_law_40 e3 (by decide) (by decide) rfl (by decide) ?_
      refine x_aload_n 1 d_L_law_392 rfl rfl ?_
      refine x_aload_n 0 d_L_law_393 rfl rfl ?_
      refine x_iload 4 d_L_law_394 rfl ?_
      refine x_iconst (v := 1) d_L_law_396 (by decide) ?_
      refine x_iadd d_L_law_397 ?_
      refine x_sld rfl h d_L_law_398 (fun v36 h => ?_)
      refine x_aload_n 0 d_L_law_399 rfl rfl ?_
      refine x_iload 4 d_L_law_400 rfl ?_
      refine x_iconst (v := 2) d_L_law_402 (by decide) ?_
      refine x_iadd d_L_law_403 ?_
      refine x_sld rfl h d_L_law_404 (fun v37 h => ?_)
      refine x_aload_n 0 d_L_law_405 rfl rfl ?_
      refine x_iload 4 d_L_law_406 rfl ?_
      refine x_iconst (v := 3) d_L_law_408 (by decide) ?_
      refine x_iadd d_L_law_409 ?_
      refine x_sld rfl h d_L_law_410 (fun v38 h => ?_)
      refine x_aload_n 3 d_L_law_411 rfl rfl ?_
      refine x_callS' (M' := m_L_paste) (ax := [.inr (.inr x1), .inl v36, .inl v37, .inl v38, .inr (.inr x3)]) (cv := cvI) (host := none) (st := []) h (fun q h l => s_L_paste d x1 v36 v37 v38 x3 S q h l D) rfl d_L_law_412 wm_L_78 wc_L_paste rfl (Nat.le_of_ble_eq_true rfl) (fun q39 h => ?_)
      show V _ _ _ _ _ _ _ (.int q39.1 :: []) _
      refine x_istore (lv' := [(5, .inl q39.1), (0, .inr (.inr (some D.2.2.1))), (1, .inr (.inr x1)), (2, .inr (.inr x2)), (3, .inr (.inr x3)), (4, .inl x4)]) d_L_law_415 (by decide) rfl ?_
      refine x_aload_n 3 d_L_law_417 rfl rfl ?_
      refine x_aload_n 1 d_L_law_418 rfl rfl ?_
      refine x_iload 5 d_L_law_419 rfl ?_
      refine x_iconst (v := 1) d_L_law_421 (by decide) ?_
      refine x_iadd d_L_law_422 ?_
      refine x_sld rfl h d_L_law_423 (fun v40 h => ?_)
      refine x_aload_n 1 d_L_law_424 rfl rfl ?_
      refine x_iload 5 d_L_law_425 rfl ?_
      refine x_iconst (v := 2) d_L_law_427 (by decide) ?_
      refine x_iadd d_L_law_428 ?_
      refine x_sld rfl h d_L_law_429 (fun v41 h => ?_)
      refine x_aload_n 1 d_L_law_430 rfl rfl ?_
      refine x_iload 5 d_L_law_431 rfl ?_
      refine x_iconst (v := 3) d_L_law_433 (by decide) ?_
      refine x_iadd d_L_law_434 ?_
      refine x_sld rfl h d_L_law_435 (fun v42 h => ?_)
      refine x_callV' (M' := m_M_paste) (ax := [.inl v40, .inl v41, .inl v42]) (cv := cvI) (host := none) (st := []) h (fun q h l => s_M_paste d x2 v40 v41 v42 q39.2 q h l D) hc_5 rfl d_L_law_436 wm_L_81 wc_M_paste rfl (Nat.le_of_ble_eq_true rfl) (fun q43 h => ?_)
      show V _ _ _ _ _ _ _ (.int q43.1 :: []) _
      refine x_istore (lv' := [(6, .inl q43.1), (5, .inl q39.1), (0, .inr (.inr (some D.2.2.1))), (1, .inr (.inr x1)), (2, .inr (.inr x2)), (3, .inr (.inr x3)), (4, .inl x4)]) d_L_law_439 (by decide) rfl ?_
      refine x_aload_n 4 d_L_law_441 rfl rfl ?_
      refine x_callV' (M' := m_M_thrown) (ax := []) (cv := cvI) (host := none) (st := []) h (fun q h l => s_M_thrown d x2 q43.2 q h l D) hc_5 rfl d_L_law_442 wm_L_66 wc_M_thrown rfl (Nat.le_of_ble_eq_true rfl) (fun q44 h => ?_)
      show V _ _ _ _ _ _ _ (.int q44.1 :: []) _
      refine x_iload 1 d_L_law_445 rfl ?_
      refine x_icmp_eq (tgt := 452) d_L_law_447 (by decide) h (fun h => ?_) (fun h => ?_)
      · refine x_iload 1 d_L_law_452 rfl ?_
        refine x_if_ne (tgt := 469) d_L_law_454 (by decide) h (fun h => ?_) (fun h => ?_)
        · refine x_ls [2, 3, 4, 5, 6] rfl ?_
          exact tb_L_law_469 hk23 x1 x2 x3 x4 q44.2 _ h
        · refine x_aload_n 5 d_L_law_457 rfl rfl ?_
          refine x_iconst (v := 0) d_L_law_458 (by decide) ?_
          refine x_lald h ha_1 d_L_law_459 (fun v45 h => ?_)
          refine x_iload 0 d_L_law_460 rfl ?_
          refine x_i2l d_L_law_462 ?_
          refine x_lcmp d_L_law_463 ?_
          refine x_if_eq (tgt := 469) d_L_law_464 (by decide) h (fun h => ?_) (fun h => ?_)
          · refine x_ls [2, 3, 4, 5, 6] rfl ?_
            exact tb_L_law_469 hk23 x1 x2 x3 x4 q44.2 _ h
          · refine x_iconst (v := 0) d_L_law_467 (by decide) ?_
            exact x_zretI h rfl d_L_law_468
      · refine x_iconst (v := 0) d_L_law_450 (by decide) ?_
        exact x_zretI h rfl d_L_law_451
    rw [if_neg e3] at h
    by_cases e4 : (v1 &&& 15) = 4
    · rw [if_pos e4] at h
      refine x_tabIn (k := 4) (tgt := 472) d_L_law_40 e4 (by decide) (by decide) rfl (by decide) ?_
      refine x_aload_n 1 d_L_law_472 rfl rfl ?_
      refine x_aload_n 0 d_L_law_473 rfl rfl ?_
      refine x_iload 4 d_L_law_474 rfl ?_
      refine x_iconst (v := 1) d_L_law_476 (by decide) ?_
      refine x_iadd d_L_law_477 ?_
      refine x_sld rfl h d_L_law_478 (fun v46 h => ?_)
      refine x_aload_n 0 d_L_law_479 rfl rfl ?_
      refine x_iload 4 d_L_law_480 rfl ?_
      refine x_iconst (v := 2) d_L_law_482 (by decide) ?_
      refine x_iadd d_L_law_483 ?_
      refine x_sld rfl h d_L_law_484 (fun v47 h => ?_)
      refine x_aload_n 0 d_L_law_485 rfl rfl ?_
      refine x_iload 4 d_L_law_486 rfl ?_
      refine x_iconst (v := 3) d_L_law_488 (by decide) ?_
      refine x_iadd d_L_law_489 ?_
      refine x_sld rfl h d_L_law_490 (fun v48 h => ?_)
      refine x_aload_n 0 d_L_law_491 rfl rfl ?_
      refine x_iload 4 d_L_law_492 rfl ?_
      refine x_iconst (v := 4) d_L_law_494 (by decide) ?_
      refine x_iadd d_L_law_495 ?_
      refine x_sld rfl h d_L_law_496 (fun v49 h => ?_)
      refine x_aload_n 3 d_L_law_497 rfl rfl ?_
      refine x_callS' (M' := m_L_copy) (ax := [.inr (.inr x1), .inl v46, .inl v47, .inl v48, .inl v49, .inr (.inr x3)]) (cv := cvI) (host := none) (st := []) h (fun q h l => s_L_copy d x1 v46 v47 v48 v49 x3 S q h l D) rfl d_L_law_498 wm_L_82 wc_L_copy rfl (Nat.le_of_ble_eq_true rfl) (fun q50 h => ?_)
      show V _ _ _ _ _ _ _ (.int q50.1 :: []) _
      refine x_istore (lv' := [(5, .inl q50.1), (0, .inr (.inr (some D.2.2.1))), (1, .inr (.inr x1)), (2, .inr (.inr x2)), (3, .inr (.inr x3)), (4, .inl x4)]) d_L_law_501 (by decide) rfl ?_
      refine x_aload_n 3 d_L_law_503 rfl rfl ?_
      refine x_aload_n 1 d_L_law_504 rfl rfl ?_
      refine x_iload 5 d_L_law_505 rfl ?_
      refine x_iconst (v := 1) d_L_law_507 (by decide) ?_
      refine x_iadd d_L_law_508 ?_
      refine x_sld rfl h d_L_law_509 (fun v51 h => ?_)
      refine x_aload_n 1 d_L_law_510 rfl rfl ?_
      refine x_iload 5 d_L_law_511 rfl ?_
      refine x_iconst (v := 2) d_L_law_513 (by decide) ?_
      refine x_iadd d_L_law_514 ?_
      refine x_sld rfl h d_L_law_515 (fun v52 h => ?_)
      refine x_aload_n 1 d_L_law_516 rfl rfl ?_
      refine x_iload 5 d_L_law_517 rfl ?_
      refine x_iconst (v := 3) d_L_law_519 (by decide) ?_
      refine x_iadd d_L_law_520 ?_
      refine x_sld rfl h d_L_law_521 (fun v53 h => ?_)
      refine x_aload_n 1 d_L_law_522 rfl rfl ?_
      refine x_iload 5 d_L_law_523 rfl ?_
      refine x_iconst (v := 4) d_L_law_525 (by decide) ?_
      refine x_iadd d_L_law_526 ?_
      refine x_sld rfl h d_L_law_527 (fun v54 h => ?_)
      refine x_callV' (M' := m_M_copy) (ax := [.inl v51, .inl v52, .inl v53, .inl v54]) (cv := cvI) (host := none) (st := []) h (fun q h l => s_M_copy d x2 v51 v52 v53 v54 q50.2 q h l D) hc_5 rfl d_L_law_528 wm_L_84 wc_M_copy rfl (Nat.le_of_ble_eq_true rfl) (fun q55 h => ?_)
      show V _ _ _ _ _ _ _ (.int q55.1 :: []) _
      refine x_istore (lv' := [(6, .inl q55.1), (5, .inl q50.1), (0, .inr (.inr (some D.2.2.1))), (1, .inr (.inr x1)), (2, .inr (.inr x2)), (3, .inr (.inr x3)), (4, .inl x4)]) d_L_law_531 (by decide) rfl ?_
      refine x_aload_n 4 d_L_law_533 rfl rfl ?_
      refine x_callV' (M' := m_M_thrown) (ax := []) (cv := cvI) (host := none) (st := []) h (fun q h l => s_M_thrown d x2 q55.2 q h l D) hc_5 rfl d_L_law_534 wm_L_66 wc_M_thrown rfl (Nat.le_of_ble_eq_true rfl) (fun q56 h => ?_)
      show V _ _ _ _ _ _ _ (.int q56.1 :: []) _
      refine x_iload 1 d_L_law_537 rfl ?_
      refine x_icmp_eq (tgt := 544) d_L_law_539 (by decide) h (fun h => ?_) (fun h => ?_)
      · refine x_iload 1 d_L_law_544 rfl ?_
        refine x_if_ne (tgt := 561) d_L_law_546 (by decide) h (fun h => ?_) (fun h => ?_)
        · refine x_ls [2, 3, 4, 5, 6] rfl ?_
          exact tb_L_law_561 hk23 x1 x2 x3 x4 q56.2 _ h
        · refine x_aload_n 5 d_L_law_549 rfl rfl ?_
          refine x_iconst (v := 0) d_L_law_550 (by decide) ?_
          refine x_lald h ha_1 d_L_law_551 (fun v57 h => ?_)
          refine x_iload 0 d_L_law_552 rfl ?_
          refine x_i2l d_L_law_554 ?_
          refine x_lcmp d_L_law_555 ?_
          refine x_if_eq (tgt := 561) d_L_law_556 (by decide) h (fun h => ?_) (fun h => ?_)
          · refine x_ls [2, 3, 4, 5, 6] rfl ?_
            exact tb_L_law_561 hk23 x1 x2 x3 x4 q56.2 _ h
          · refine x_iconst (v := 0) d_L_law_559 (by decide) ?_
            exact x_zretI h rfl d_L_law_560
      · refine x_iconst (v := 0) d_L_law_542 (by decide) ?_
        exact x_zretI h rfl d_L_law_543
    rw [if_neg e4] at h
    by_cases e5 : (v1 &&& 15) = 5
    · rw [if_pos e5] at h
      refine x_tabIn (k := 5) (tgt := 564) d_L_law_40 e5 (by decide) (by decide) rfl (by decide) ?_
      refine x_aload_n 1 d_L_law_564 rfl rfl ?_
      refine x_aload_n 0 d_L_law_565 rfl rfl ?_
      refine x_iload 4 d_L_law_566 rfl ?_
      refine x_iconst (v := 1) d_L_law_568 (by decide) ?_
      refine x_iadd d_L_law_569 ?_
      refine x_sld rfl h d_L_law_570 (fun v58 h => ?_)
      refine x_aload_n 0 d_L_law_571 rfl rfl ?_
      refine x_iload 4 d_L_law_572 rfl ?_
      refine x_iconst (v := 2) d_L_law_574 (by decide) ?_
      refine x_iadd d_L_law_575 ?_
      refine x_sld rfl h d_L_law_576 (fun v59 h => ?_)
      refine x_aload_n 0 d_L_law_577 rfl rfl ?_
      refine x_iload 4 d_L_law_578 rfl ?_
      refine x_iconst (v := 3) d_L_law_580 (by decide) ?_
      refine x_iadd d_L_law_581 ?_
      refine x_sld rfl h d_L_law_582 (fun v60 h => ?_)
      refine x_aload_n 0 d_L_law_583 rfl rfl ?_
      refine x_iload 4 d_L_law_584 rfl ?_
      refine x_iconst (v := 4) d_L_law_586 (by decide) ?_
      refine x_iadd d_L_law_587 ?_
      refine x_sld rfl h d_L_law_588 (fun v61 h => ?_)
      refine x_aload_n 0 d_L_law_589 rfl rfl ?_
      refine x_iload 4 d_L_law_590 rfl ?_
      refine x_iconst (v := 5) d_L_law_592 (by decide) ?_
      refine x_iadd d_L_law_593 ?_
      refine x_sld rfl h d_L_law_594 (fun v62 h => ?_)
      refine x_aload_n 3 d_L_law_595 rfl rfl ?_
      refine x_callS' (M' := m_L_tag) (ax := [.inr (.inr x1), .inl v58, .inl v59, .inl v60, .inl v61, .inl v62, .inr (.inr x3)]) (cv := cvI) (host := none) (st := []) h (fun q h l => s_L_tag d x1 v58 v59 v60 v61 v62 x3 S q h l D) rfl d_L_law_596 wm_L_85 wc_L_tag rfl (Nat.le_of_ble_eq_true rfl) (fun q63 h => ?_)
      show V _ _ _ _ _ _ _ (.int q63.1 :: []) _
      refine x_istore (lv' := [(5, .inl q63.1), (0, .inr (.inr (some D.2.2.1))), (1, .inr (.inr x1)), (2, .inr (.inr x2)), (3, .inr (.inr x3)), (4, .inl x4)]) d_L_law_599 (by decide) rfl ?_
      refine x_aload_n 3 d_L_law_601 rfl rfl ?_
      refine x_aload_n 1 d_L_law_602 rfl rfl ?_
      refine x_iload 5 d_L_law_603 rfl ?_
      refine x_iconst (v := 1) d_L_law_605 (by decide) ?_
      refine x_iadd d_L_law_606 ?_
      refine x_sld rfl h d_L_law_607 (fun v64 h => ?_)
      refine x_aload_n 1 d_L_law_608 rfl rfl ?_
      refine x_iload 5 d_L_law_609 rfl ?_
      refine x_iconst (v := 2) d_L_law_611 (by decide) ?_
      refine x_iadd d_L_law_612 ?_
      refine x_sld rfl h d_L_law_613 (fun v65 h => ?_)
      refine x_aload_n 1 d_L_law_614 rfl rfl ?_
      refine x_iload 5 d_L_law_615 rfl ?_
      refine x_iconst (v := 3) d_L_law_617 (by decide) ?_
      refine x_iadd d_L_law_618 ?_
      refine x_sld rfl h d_L_law_619 (fun v66 h => ?_)
      refine x_aload_n 1 d_L_law_620 rfl rfl ?_
      refine x_iload 5 d_L_law_621 rfl ?_
      refine x_iconst (v := 4) d_L_law_623 (by decide) ?_
      refine x_iadd d_L_law_624 ?_
      refine x_sld rfl h d_L_law_625 (fun v67 h => ?_)
      refine x_aload_n 1 d_L_law_626 rfl rfl ?_
      refine x_iload 5 d_L_law_627 rfl ?_
      refine x_iconst (v := 5) d_L_law_629 (by decide) ?_
      refine x_iadd d_L_law_630 ?_
      refine x_sld rfl h d_L_law_631 (fun v68 h => ?_)
      refine x_callV' (M' := m_M_tag) (ax := [.inl v64, .inl v65, .inl v66, .inl v67, .inl v68]) (cv := cvI) (host := none) (st := []) h (fun q h l => s_M_tag d x2 v64 v65 v66 v67 v68 q63.2 q h l D) hc_5 rfl d_L_law_632 wm_L_87 wc_M_tag rfl (Nat.le_of_ble_eq_true rfl) (fun q69 h => ?_)
      show V _ _ _ _ _ _ _ (.int q69.1 :: []) _
      refine x_istore (lv' := [(6, .inl q69.1), (5, .inl q63.1), (0, .inr (.inr (some D.2.2.1))), (1, .inr (.inr x1)), (2, .inr (.inr x2)), (3, .inr (.inr x3)), (4, .inl x4)]) d_L_law_635 (by decide) rfl ?_
      refine x_aload_n 4 d_L_law_637 rfl rfl ?_
      refine x_callV' (M' := m_M_thrown) (ax := []) (cv := cvI) (host := none) (st := []) h (fun q h l => s_M_thrown d x2 q69.2 q h l D) hc_5 rfl d_L_law_638 wm_L_66 wc_M_thrown rfl (Nat.le_of_ble_eq_true rfl) (fun q70 h => ?_)
      show V _ _ _ _ _ _ _ (.int q70.1 :: []) _
      refine x_iload 1 d_L_law_641 rfl ?_
      refine x_icmp_eq (tgt := 648) d_L_law_643 (by decide) h (fun h => ?_) (fun h => ?_)
      · refine x_iload 1 d_L_law_648 rfl ?_
        refine x_if_ne (tgt := 665) d_L_law_650 (by decide) h (fun h => ?_) (fun h => ?_)
        · refine x_ls [2, 3, 4, 5, 6] rfl ?_
          exact tb_L_law_665 hk23 x1 x2 x3 x4 q70.2 _ h
        · refine x_aload_n 5 d_L_law_653 rfl rfl ?_
          refine x_iconst (v := 0) d_L_law_654 (by decide) ?_
          refine x_lald h ha_1 d_L_law_655 (fun v71 h => ?_)
          refine x_iload 0 d_L_law_656 rfl ?_
          refine x_i2l d_L_law_658 ?_
          refine x_lcmp d_L_law_659 ?_
          refine x_if_eq (tgt := 665) d_L_law_660 (by decide) h (fun h => ?_) (fun h => ?_)
          · refine x_ls [2, 3, 4, 5, 6] rfl ?_
            exact tb_L_law_665 hk23 x1 x2 x3 x4 q70.2 _ h
          · refine x_iconst (v := 0) d_L_law_663 (by decide) ?_
            exact x_zretI h rfl d_L_law_664
      · refine x_iconst (v := 0) d_L_law_646 (by decide) ?_
        exact x_zretI h rfl d_L_law_647
    rw [if_neg e5] at h
    by_cases e6 : (v1 &&& 15) = 6
    · rw [if_pos e6] at h
      refine x_tabIn (k := 6) (tgt := 668) d_L_law_40 e6 (by decide) (by decide) rfl (by decide) ?_
      refine x_aload_n 1 d_L_law_668 rfl rfl ?_
      refine x_aload_n 0 d_L_law_669 rfl rfl ?_
      refine x_iload 4 d_L_law_670 rfl ?_
      refine x_iconst (v := 1) d_L_law_672 (by decide) ?_
      refine x_iadd d_L_law_673 ?_
      refine x_sld rfl h d_L_law_674 (fun v72 h => ?_)
      refine x_aload_n 3 d_L_law_675 rfl rfl ?_
      refine x_callS' (M' := m_L_wipe) (ax := [.inr (.inr x1), .inl v72, .inr (.inr x3)]) (cv := cvI) (host := none) (st := []) h (fun q h l => s_L_wipe d x1 v72 x3 S q h l D) rfl d_L_law_676 wm_L_88 wc_L_wipe rfl (Nat.le_of_ble_eq_true rfl) (fun q73 h => ?_)
      show V _ _ _ _ _ _ _ (.int q73.1 :: []) _
      refine x_istore (lv' := [(5, .inl q73.1), (0, .inr (.inr (some D.2.2.1))), (1, .inr (.inr x1)), (2, .inr (.inr x2)), (3, .inr (.inr x3)), (4, .inl x4)]) d_L_law_679 (by decide) rfl ?_
      refine x_aload_n 3 d_L_law_681 rfl rfl ?_
      refine x_aload_n 1 d_L_law_682 rfl rfl ?_
      refine x_iload 5 d_L_law_683 rfl ?_
      refine x_iconst (v := 1) d_L_law_685 (by decide) ?_
      refine x_iadd d_L_law_686 ?_
      refine x_sld rfl h d_L_law_687 (fun v74 h => ?_)
      refine x_callV' (M' := m_M_wipe) (ax := [.inl v74]) (cv := cvI) (host := none) (st := []) h (fun q h l => s_M_wipe d x2 v74 q73.2 q h l D) hc_5 rfl d_L_law_688 wm_L_91 wc_M_wipe rfl (Nat.le_of_ble_eq_true rfl) (fun q75 h => ?_)
      show V _ _ _ _ _ _ _ (.int q75.1 :: []) _
      refine x_istore (lv' := [(6, .inl q75.1), (5, .inl q73.1), (0, .inr (.inr (some D.2.2.1))), (1, .inr (.inr x1)), (2, .inr (.inr x2)), (3, .inr (.inr x3)), (4, .inl x4)]) d_L_law_691 (by decide) rfl ?_
      refine x_aload_n 4 d_L_law_693 rfl rfl ?_
      refine x_callV' (M' := m_M_thrown) (ax := []) (cv := cvI) (host := none) (st := []) h (fun q h l => s_M_thrown d x2 q75.2 q h l D) hc_5 rfl d_L_law_694 wm_L_66 wc_M_thrown rfl (Nat.le_of_ble_eq_true rfl) (fun q76 h => ?_)
      show V _ _ _ _ _ _ _ (.int q76.1 :: []) _
      refine x_iload 1 d_L_law_697 rfl ?_
      refine x_icmp_eq (tgt := 704) d_L_law_699 (by decide) h (fun h => ?_) (fun h => ?_)
      · refine x_iload 1 d_L_law_704 rfl ?_
        refine x_if_ne (tgt := 721) d_L_law_706 (by decide) h (fun h => ?_) (fun h => ?_)
        · refine x_ls [2, 3, 4, 5, 6] rfl ?_
          exact tb_L_law_721 hk23 x1 x2 x3 x4 q76.2 _ h
        · refine x_aload_n 5 d_L_law_709 rfl rfl ?_
          refine x_iconst (v := 0) d_L_law_710 (by decide) ?_
          refine x_lald h ha_1 d_L_law_711 (fun v77 h => ?_)
          refine x_iload 0 d_L_law_712 rfl ?_
          refine x_i2l d_L_law_714 ?_
          refine x_lcmp d_L_law_715 ?_
          refine x_if_eq (tgt := 721) d_L_law_716 (by decide) h (fun h => ?_) (fun h => ?_)
          · refine x_ls [2, 3, 4, 5, 6] rfl ?_
            exact tb_L_law_721 hk23 x1 x2 x3 x4 q76.2 _ h
          · refine x_iconst (v := 0) d_L_law_719 (by decide) ?_
            exact x_zretI h rfl d_L_law_720
      · refine x_iconst (v := 0) d_L_law_702 (by decide) ?_
        exact x_zretI h rfl d_L_law_703
    rw [if_neg e6] at h
    by_cases e7 : (v1 &&& 15) = 7
    · rw [if_pos e7] at h
      refine x_tabIn (k := 7) (tgt := 724) d_L_law_40 e7 (by decide) (by decide) rfl (by decide) ?_
      refine x_aload_n 1 d_L_law_724 rfl rfl ?_
      refine x_aload_n 0 d_L_law_725 rfl rfl ?_
      refine x_iload 4 d_L_law_726 rfl ?_
      refine x_iconst (v := 1) d_L_law_728 (by decide) ?_
      refine x_iadd d_L_law_729 ?_
      refine x_sld rfl h d_L_law_730 (fun v78 h => ?_)
      refine x_callV' (M' := m_P_length) (ax := [.inl v78]) (cv := cvI) (host := none) (st := []) h (fun q h l => s_P_length d x1 v78 S q h l D) hc_0 rfl d_L_law_731 wm_L_92 wc_P_length rfl (Nat.le_of_ble_eq_true rfl) (fun q79 h => ?_)
      show V _ _ _ _ _ _ _ (.int q79.1 :: []) _
      refine x_aload_n 2 d_L_law_734 rfl rfl ?_
      refine x_aload_n 0 d_L_law_735 rfl rfl ?_
      refine x_iload 4 d_L_law_736 rfl ?_
      refine x_iconst (v := 1) d_L_law_738 (by decide) ?_
      refine x_iadd d_L_law_739 ?_
      refine x_sld rfl h d_L_law_740 (fun v80 h => ?_)
      refine x_callV' (M' := m_M_length) (ax := [.inl v80]) (cv := cvI) (host := none) (st := [.int q79.1]) h (fun q h l => s_M_length d x2 v80 q79.2 q h l D) hc_5 rfl d_L_law_741 wm_L_95 wc_M_length rfl (Nat.le_of_ble_eq_true rfl) (fun q81 h => ?_)
      show V _ _ _ _ _ _ _ (.int q81.1 :: .int q79.1 :: []) _
      refine x_icmp_eq (tgt := 1082) d_L_law_744 (by decide) h (fun h => ?_) (fun h => ?_)
      · refine x_ls [0, 1, 2, 3, 4] rfl ?_
        exact tb_L_law_1082 hk23 x1 x2 x3 x4 q81.2 _ h
      · refine x_iconst (v := 0) d_L_law_747 (by decide) ?_
        exact x_zretI h rfl d_L_law_748
    rw [if_neg e7] at h
    by_cases e8 : (v1 &&& 15) = 8
    · rw [if_pos e8] at h
      refine x_tabIn (k := 8) (tgt := 749) d_L_law_40 e8 (by decide) (by decide) rfl (by decide) ?_
      refine x_aload_n 1 d_L_law_749 rfl rfl ?_
      refine x_aload_n 0 d_L_law_750 rfl rfl ?_
      refine x_iload 4 d_L_law_751 rfl ?_
      refine x_iconst (v := 1) d_L_law_753 (by decide) ?_
      refine x_iadd d_L_law_754 ?_
      refine x_sld rfl h d_L_law_755 (fun v82 h => ?_)
      refine x_aload_n 0 d_L_law_756 rfl rfl ?_
      refine x_iload 4 d_L_law_757 rfl ?_
      refine x_iconst (v := 2) d_L_law_759 (by decide) ?_
      refine x_iadd d_L_law_760 ?_
      refine x_sld rfl h d_L_law_761 (fun v83 h => ?_)
      refine x_aload_n 0 d_L_law_762 rfl rfl ?_
      refine x_iload 4 d_L_law_763 rfl ?_
      refine x_iconst (v := 3) d_L_law_765 (by decide) ?_
      refine x_iadd d_L_law_766 ?_
      refine x_sld rfl h d_L_law_767 (fun v84 h => ?_)
      refine x_aload_n 3 d_L_law_768 rfl rfl ?_
      refine x_callS' (M' := m_L_look) (ax := [.inr (.inr x1), .inl v82, .inl v83, .inl v84, .inr (.inr x3)]) (cv := cvI) (host := none) (st := []) h (fun q h l => s_L_look d x1 v82 v83 v84 x3 S q h l D) rfl d_L_law_769 wm_L_96 wc_L_look rfl (Nat.le_of_ble_eq_true rfl) (fun q85 h => ?_)
      show V _ _ _ _ _ _ _ (.int q85.1 :: []) _
      refine x_istore (lv' := [(5, .inl q85.1), (0, .inr (.inr (some D.2.2.1))), (1, .inr (.inr x1)), (2, .inr (.inr x2)), (3, .inr (.inr x3)), (4, .inl x4)]) d_L_law_772 (by decide) rfl ?_
      refine x_aload_n 3 d_L_law_774 rfl rfl ?_
      refine x_aload_n 1 d_L_law_775 rfl rfl ?_
      refine x_iload 5 d_L_law_776 rfl ?_
      refine x_iconst (v := 1) d_L_law_778 (by decide) ?_
      refine x_iadd d_L_law_779 ?_
      refine x_sld rfl h d_L_law_780 (fun v86 h => ?_)
      refine x_aload_n 1 d_L_law_781 rfl rfl ?_
      refine x_iload 5 d_L_law_782 rfl ?_
      refine x_iconst (v := 2) d_L_law_784 (by decide) ?_
      refine x_iadd d_L_law_785 ?_
      refine x_sld rfl h d_L_law_786 (fun v87 h => ?_)
      refine x_aload_n 1 d_L_law_787 rfl rfl ?_
      refine x_iload 5 d_L_law_788 rfl ?_
      refine x_iconst (v := 3) d_L_law_790 (by decide) ?_
      refine x_iadd d_L_law_791 ?_
      refine x_sld rfl h d_L_law_792 (fun v88 h => ?_)
      refine x_callV' (M' := m_M_look) (ax := [.inl v86, .inl v87, .inl v88]) (cv := cvI) (host := none) (st := []) h (fun q h l => s_M_look d x2 v86 v87 v88 q85.2 q h l D) hc_5 rfl d_L_law_793 wm_L_98 wc_M_look rfl (Nat.le_of_ble_eq_true rfl) (fun q89 h => ?_)
      show V _ _ _ _ _ _ _ (.int q89.1 :: []) _
      refine x_istore (lv' := [(6, .inl q89.1), (5, .inl q85.1), (0, .inr (.inr (some D.2.2.1))), (1, .inr (.inr x1)), (2, .inr (.inr x2)), (3, .inr (.inr x3)), (4, .inl x4)]) d_L_law_796 (by decide) rfl ?_
      refine x_aload_n 4 d_L_law_798 rfl rfl ?_
      refine x_callV' (M' := m_M_thrown) (ax := []) (cv := cvI) (host := none) (st := []) h (fun q h l => s_M_thrown d x2 q89.2 q h l D) hc_5 rfl d_L_law_799 wm_L_66 wc_M_thrown rfl (Nat.le_of_ble_eq_true rfl) (fun q90 h => ?_)
      show V _ _ _ _ _ _ _ (.int q90.1 :: []) _
      refine x_iload 1 d_L_law_802 rfl ?_
      refine x_icmp_eq (tgt := 809) d_L_law_804 (by decide) h (fun h => ?_) (fun h => ?_)
      · refine x_iload 1 d_L_law_809 rfl ?_
        refine x_if_ne (tgt := 826) d_L_law_811 (by decide) h (fun h => ?_) (fun h => ?_)
        · refine x_ls [2, 3, 4, 5, 6] rfl ?_
          exact tb_L_law_826 hk23 x1 x2 x3 x4 q90.2 _ h
        · refine x_aload_n 5 d_L_law_814 rfl rfl ?_
          refine x_iconst (v := 0) d_L_law_815 (by decide) ?_
          refine x_lald h ha_1 d_L_law_816 (fun v91 h => ?_)
          refine x_iload 0 d_L_law_817 rfl ?_
          refine x_i2l d_L_law_819 ?_
          refine x_lcmp d_L_law_820 ?_
          refine x_if_eq (tgt := 826) d_L_law_821 (by decide) h (fun h => ?_) (fun h => ?_)
          · refine x_ls [2, 3, 4, 5, 6] rfl ?_
            exact tb_L_law_826 hk23 x1 x2 x3 x4 q90.2 _ h
          · refine x_iconst (v := 0) d_L_law_824 (by decide) ?_
            exact x_zretI h rfl d_L_law_825
      · refine x_iconst (v := 0) d_L_law_807 (by decide) ?_
        exact x_zretI h rfl d_L_law_808
    rw [if_neg e8] at h
    by_cases e9 : (v1 &&& 15) = 9
    · rw [if_pos e9] at h
      refine x_tabIn (k := 9) (tgt := 829) d_L_law_40 e9 (by decide) (by decide) rfl (by decide) ?_
      refine x_aload_n 1 d_L_law_829 rfl rfl ?_
      refine x_aload_n 0 d_L_law_830 rfl rfl ?_
      refine x_iload 4 d_L_law_831 rfl ?_
      refine x_iconst (v := 1) d_L_law_833 (by decide) ?_
      refine x_iadd d_L_law_834 ?_
      refine x_sld rfl h d_L_law_835 (fun v92 h => ?_)
      refine x_aload_n 0 d_L_law_836 rfl rfl ?_
      refine x_iload 4 d_L_law_837 rfl ?_
      refine x_iconst (v := 2) d_L_law_839 (by decide) ?_
      refine x_iadd d_L_law_840 ?_
      refine x_sld rfl h d_L_law_841 (fun v93 h => ?_)
      refine x_aload_n 0 d_L_law_842 rfl rfl ?_
      refine x_iload 4 d_L_law_843 rfl ?_
      refine x_iconst (v := 3) d_L_law_845 (by decide) ?_
      refine x_iadd d_L_law_846 ?_
      refine x_sld rfl h d_L_law_847 (fun v94 h => ?_)
      refine x_aload_n 3 d_L_law_848 rfl rfl ?_
      refine x_callS' (M' := m_L_piece) (ax := [.inr (.inr x1), .inl v92, .inl v93, .inl v94, .inr (.inr x3)]) (cv := cvI) (host := none) (st := []) h (fun q h l => s_L_piece d x1 v92 v93 v94 x3 S q h l D) rfl d_L_law_849 wm_L_99 wc_L_piece rfl (Nat.le_of_ble_eq_true rfl) (fun q95 h => ?_)
      show V _ _ _ _ _ _ _ (.int q95.1 :: []) _
      refine x_istore (lv' := [(5, .inl q95.1), (0, .inr (.inr (some D.2.2.1))), (1, .inr (.inr x1)), (2, .inr (.inr x2)), (3, .inr (.inr x3)), (4, .inl x4)]) d_L_law_852 (by decide) rfl ?_
      refine x_aload_n 3 d_L_law_854 rfl rfl ?_
      refine x_aload_n 1 d_L_law_855 rfl rfl ?_
      refine x_iload 5 d_L_law_856 rfl ?_
      refine x_iconst (v := 1) d_L_law_858 (by decide) ?_
      refine x_iadd d_L_law_859 ?_
      refine x_sld rfl h d_L_law_860 (fun v96 h => ?_)
      refine x_aload_n 1 d_L_law_861 rfl rfl ?_
      refine x_iload 5 d_L_law_862 rfl ?_
      refine x_iconst (v := 2) d_L_law_864 (by decide) ?_
      refine x_iadd d_L_law_865 ?_
      refine x_sld rfl h d_L_law_866 (fun v97 h => ?_)
      refine x_aload_n 1 d_L_law_867 rfl rfl ?_
      refine x_iload 5 d_L_law_868 rfl ?_
      refine x_iconst (v := 3) d_L_law_870 (by decide) ?_
      refine x_iadd d_L_law_871 ?_
      refine x_sld rfl h d_L_law_872 (fun v98 h => ?_)
      refine x_callV' (M' := m_M_piece) (ax := [.inl v96, .inl v97, .inl v98]) (cv := cvI) (host := none) (st := []) h (fun q h l => s_M_piece d x2 v96 v97 v98 q95.2 q h l D) hc_5 rfl d_L_law_873 wm_L_101 wc_M_piece rfl (Nat.le_of_ble_eq_true rfl) (fun q99 h => ?_)
      show V _ _ _ _ _ _ _ (.int q99.1 :: []) _
      refine x_istore (lv' := [(6, .inl q99.1), (5, .inl q95.1), (0, .inr (.inr (some D.2.2.1))), (1, .inr (.inr x1)), (2, .inr (.inr x2)), (3, .inr (.inr x3)), (4, .inl x4)]) d_L_law_876 (by decide) rfl ?_
      refine x_aload_n 4 d_L_law_878 rfl rfl ?_
      refine x_callV' (M' := m_M_thrown) (ax := []) (cv := cvI) (host := none) (st := []) h (fun q h l => s_M_thrown d x2 q99.2 q h l D) hc_5 rfl d_L_law_879 wm_L_66 wc_M_thrown rfl (Nat.le_of_ble_eq_true rfl) (fun q100 h => ?_)
      show V _ _ _ _ _ _ _ (.int q100.1 :: []) _
      refine x_iload 1 d_L_law_882 rfl ?_
      refine x_icmp_eq (tgt := 889) d_L_law_884 (by decide) h (fun h => ?_) (fun h => ?_)
      · refine x_iload 1 d_L_law_889 rfl ?_
        refine x_if_ne (tgt := 906) d_L_law_891 (by decide) h (fun h => ?_) (fun h => ?_)
        · refine x_ls [2, 3, 4, 5, 6] rfl ?_
          exact tb_L_law_906 hk23 x1 x2 x3 x4 q100.2 _ h
        · refine x_aload_n 5 d_L_law_894 rfl rfl ?_
          refine x_iconst (v := 0) d_L_law_895 (by decide) ?_
          refine x_lald h ha_1 d_L_law_896 (fun v101 h => ?_)
          refine x_iload 0 d_L_law_897 rfl ?_
          refine x_i2l d_L_law_899 ?_
          refine x_lcmp d_L_law_900 ?_
          refine x_if_eq (tgt := 906) d_L_law_901 (by decide) h (fun h => ?_) (fun h => ?_)
          · refine x_ls [2, 3, 4, 5, 6] rfl ?_
            exact tb_L_law_906 hk23 x1 x2 x3 x4 q100.2 _ h
          · refine x_iconst (v := 0) d_L_law_904 (by decide) ?_
            exact x_zretI h rfl d_L_law_905
      · refine x_iconst (v := 0) d_L_law_887 (by decide) ?_
        exact x_zretI h rfl d_L_law_888
    rw [if_neg e9] at h
    by_cases e10 : (v1 &&& 15) = 10
    · rw [if_pos e10] at h
      refine x_tabIn (k := 10) (tgt := 909) d_L_law_40 e10 (by decide) (by decide) rfl (by decide) ?_
      refine x_aload_n 1 d_L_law_909 rfl rfl ?_
      refine x_aload_n 0 d_L_law_910 rfl rfl ?_
      refine x_iload 4 d_L_law_911 rfl ?_
      refine x_iconst (v := 1) d_L_law_913 (by decide) ?_
      refine x_iadd d_L_law_914 ?_
      refine x_sld rfl h d_L_law_915 (fun v102 h => ?_)
      refine x_aload_n 0 d_L_law_916 rfl rfl ?_
      refine x_iload 4 d_L_law_917 rfl ?_
      refine x_iconst (v := 2) d_L_law_919 (by decide) ?_
      refine x_iadd d_L_law_920 ?_
      refine x_sld rfl h d_L_law_921 (fun v103 h => ?_)
      refine x_aload_n 0 d_L_law_922 rfl rfl ?_
      refine x_iload 4 d_L_law_923 rfl ?_
      refine x_iconst (v := 3) d_L_law_925 (by decide) ?_
      refine x_iadd d_L_law_926 ?_
      refine x_sld rfl h d_L_law_927 (fun v104 h => ?_)
      refine x_aload_n 3 d_L_law_928 rfl rfl ?_
      refine x_callS' (M' := m_L_find) (ax := [.inr (.inr x1), .inl v102, .inl v103, .inl v104, .inr (.inr x3)]) (cv := cvI) (host := none) (st := []) h (fun q h l => s_L_find d x1 v102 v103 v104 x3 S q h l D) rfl d_L_law_929 wm_L_102 wc_L_find rfl (Nat.le_of_ble_eq_true rfl) (fun q105 h => ?_)
      show V _ _ _ _ _ _ _ (.int q105.1 :: []) _
      refine x_istore (lv' := [(5, .inl q105.1), (0, .inr (.inr (some D.2.2.1))), (1, .inr (.inr x1)), (2, .inr (.inr x2)), (3, .inr (.inr x3)), (4, .inl x4)]) d_L_law_932 (by decide) rfl ?_
      refine x_aload_n 3 d_L_law_934 rfl rfl ?_
      refine x_aload_n 1 d_L_law_935 rfl rfl ?_
      refine x_iload 5 d_L_law_936 rfl ?_
      refine x_iconst (v := 1) d_L_law_938 (by decide) ?_
      refine x_iadd d_L_law_939 ?_
      refine x_sld rfl h d_L_law_940 (fun v106 h => ?_)
      refine x_aload_n 1 d_L_law_941 rfl rfl ?_
      refine x_iload 5 d_L_law_942 rfl ?_
      refine x_iconst (v := 2) d_L_law_944 (by decide) ?_
      refine x_iadd d_L_law_945 ?_
      refine x_sld rfl h d_L_law_946 (fun v107 h => ?_)
      refine x_aload_n 1 d_L_law_947 rfl rfl ?_
      refine x_iload 5 d_L_law_948 rfl ?_
      refine x_iconst (v := 3) d_L_law_950 (by decide) ?_
      refine x_iadd d_L_law_951 ?_
      refine x_sld rfl h d_L_law_952 (fun v108 h => ?_)
      refine x_callV' (M' := m_M_find) (ax := [.inl v106, .inl v107, .inl v108]) (cv := cvI) (host := none) (st := []) h (fun q h l => s_M_find d x2 v106 v107 v108 q105.2 q h l D) hc_5 rfl d_L_law_953 wm_L_104 wc_M_find rfl (Nat.le_of_ble_eq_true rfl) (fun q109 h => ?_)
      show V _ _ _ _ _ _ _ (.int q109.1 :: []) _
      refine x_istore (lv' := [(6, .inl q109.1), (5, .inl q105.1), (0, .inr (.inr (some D.2.2.1))), (1, .inr (.inr x1)), (2, .inr (.inr x2)), (3, .inr (.inr x3)), (4, .inl x4)]) d_L_law_956 (by decide) rfl ?_
      refine x_aload_n 4 d_L_law_958 rfl rfl ?_
      refine x_callV' (M' := m_M_thrown) (ax := []) (cv := cvI) (host := none) (st := []) h (fun q h l => s_M_thrown d x2 q109.2 q h l D) hc_5 rfl d_L_law_959 wm_L_66 wc_M_thrown rfl (Nat.le_of_ble_eq_true rfl) (fun q110 h => ?_)
      show V _ _ _ _ _ _ _ (.int q110.1 :: []) _
      refine x_iload 1 d_L_law_962 rfl ?_
      refine x_icmp_eq (tgt := 969) d_L_law_964 (by decide) h (fun h => ?_) (fun h => ?_)
      · refine x_iload 1 d_L_law_969 rfl ?_
        refine x_if_ne (tgt := 986) d_L_law_971 (by decide) h (fun h => ?_) (fun h => ?_)
        · refine x_ls [2, 3, 4, 5, 6] rfl ?_
          exact tb_L_law_986 hk23 x1 x2 x3 x4 q110.2 _ h
        · refine x_aload_n 5 d_L_law_974 rfl rfl ?_
          refine x_iconst (v := 0) d_L_law_975 (by decide) ?_
          refine x_lald h ha_1 d_L_law_976 (fun v111 h => ?_)
          refine x_iload 0 d_L_law_977 rfl ?_
          refine x_i2l d_L_law_979 ?_
          refine x_lcmp d_L_law_980 ?_
          refine x_if_eq (tgt := 986) d_L_law_981 (by decide) h (fun h => ?_) (fun h => ?_)
          · refine x_ls [2, 3, 4, 5, 6] rfl ?_
            exact tb_L_law_986 hk23 x1 x2 x3 x4 q110.2 _ h
          · refine x_iconst (v := 0) d_L_law_984 (by decide) ?_
            exact x_zretI h rfl d_L_law_985
      · refine x_iconst (v := 0) d_L_law_967 (by decide) ?_
        exact x_zretI h rfl d_L_law_968
    rw [if_neg e10] at h
    by_cases e11 : (v1 &&& 15) = 11
    · rw [if_pos e11] at h
      refine x_tabIn (k := 11) (tgt := 989) d_L_law_40 e11 (by decide) (by decide) rfl (by decide) ?_
      refine x_aload_n 1 d_L_law_989 rfl rfl ?_
      refine x_aload_n 0 d_L_law_990 rfl rfl ?_
      refine x_iload 4 d_L_law_991 rfl ?_
      refine x_iconst (v := 1) d_L_law_993 (by decide) ?_
      refine x_iadd d_L_law_994 ?_
      refine x_sld rfl h d_L_law_995 (fun v112 h => ?_)
      refine x_aload_n 0 d_L_law_996 rfl rfl ?_
      refine x_iload 4 d_L_law_997 rfl ?_
      refine x_iconst (v := 2) d_L_law_999 (by decide) ?_
      refine x_iadd d_L_law_1000 ?_
      refine x_sld rfl h d_L_law_1001 (fun v113 h => ?_)
      refine x_aload_n 3 d_L_law_1002 rfl rfl ?_
      refine x_callS' (M' := m_L_differ) (ax := [.inr (.inr x1), .inl v112, .inl v113, .inr (.inr x3)]) (cv := cvI) (host := none) (st := []) h (fun q h l => s_L_differ d x1 v112 v113 x3 S q h l D) rfl d_L_law_1003 wm_L_105 wc_L_differ rfl (Nat.le_of_ble_eq_true rfl) (fun q114 h => ?_)
      show V _ _ _ _ _ _ _ (.int q114.1 :: []) _
      refine x_istore (lv' := [(5, .inl q114.1), (0, .inr (.inr (some D.2.2.1))), (1, .inr (.inr x1)), (2, .inr (.inr x2)), (3, .inr (.inr x3)), (4, .inl x4)]) d_L_law_1006 (by decide) rfl ?_
      refine x_aload_n 3 d_L_law_1008 rfl rfl ?_
      refine x_aload_n 1 d_L_law_1009 rfl rfl ?_
      refine x_iload 5 d_L_law_1010 rfl ?_
      refine x_iconst (v := 1) d_L_law_1012 (by decide) ?_
      refine x_iadd d_L_law_1013 ?_
      refine x_sld rfl h d_L_law_1014 (fun v115 h => ?_)
      refine x_aload_n 1 d_L_law_1015 rfl rfl ?_
      refine x_iload 5 d_L_law_1016 rfl ?_
      refine x_iconst (v := 2) d_L_law_1018 (by decide) ?_
      refine x_iadd d_L_law_1019 ?_
      refine x_sld rfl h d_L_law_1020 (fun v116 h => ?_)
      refine x_callV' (M' := m_M_differ) (ax := [.inl v115, .inl v116]) (cv := cvI) (host := none) (st := []) h (fun q h l => s_M_differ d x2 v115 v116 q114.2 q h l D) hc_5 rfl d_L_law_1021 wm_L_108 wc_M_differ rfl (Nat.le_of_ble_eq_true rfl) (fun q117 h => ?_)
      show V _ _ _ _ _ _ _ (.int q117.1 :: []) _
      refine x_istore (lv' := [(6, .inl q117.1), (5, .inl q114.1), (0, .inr (.inr (some D.2.2.1))), (1, .inr (.inr x1)), (2, .inr (.inr x2)), (3, .inr (.inr x3)), (4, .inl x4)]) d_L_law_1024 (by decide) rfl ?_
      refine x_aload_n 4 d_L_law_1026 rfl rfl ?_
      refine x_callV' (M' := m_M_thrown) (ax := []) (cv := cvI) (host := none) (st := []) h (fun q h l => s_M_thrown d x2 q117.2 q h l D) hc_5 rfl d_L_law_1027 wm_L_66 wc_M_thrown rfl (Nat.le_of_ble_eq_true rfl) (fun q118 h => ?_)
      show V _ _ _ _ _ _ _ (.int q118.1 :: []) _
      refine x_iload 1 d_L_law_1030 rfl ?_
      refine x_icmp_eq (tgt := 1037) d_L_law_1032 (by decide) h (fun h => ?_) (fun h => ?_)
      · refine x_iload 1 d_L_law_1037 rfl ?_
        refine x_if_ne (tgt := 1054) d_L_law_1039 (by decide) h (fun h => ?_) (fun h => ?_)
        · refine x_ls [2, 3, 4, 5, 6] rfl ?_
          exact tb_L_law_1054 hk23 x1 x2 x3 x4 q118.2 _ h
        · refine x_aload_n 5 d_L_law_1042 rfl rfl ?_
          refine x_iconst (v := 0) d_L_law_1043 (by decide) ?_
          refine x_lald h ha_1 d_L_law_1044 (fun v119 h => ?_)
          refine x_iload 0 d_L_law_1045 rfl ?_
          refine x_i2l d_L_law_1047 ?_
          refine x_lcmp d_L_law_1048 ?_
          refine x_if_eq (tgt := 1054) d_L_law_1049 (by decide) h (fun h => ?_) (fun h => ?_)
          · refine x_ls [2, 3, 4, 5, 6] rfl ?_
            exact tb_L_law_1054 hk23 x1 x2 x3 x4 q118.2 _ h
          · refine x_iconst (v := 0) d_L_law_1052 (by decide) ?_
            exact x_zretI h rfl d_L_law_1053
      · refine x_iconst (v := 0) d_L_law_1035 (by decide) ?_
        exact x_zretI h rfl d_L_law_1036
    rw [if_neg e11] at h
    by_cases e12 : (v1 &&& 15) = 12
    · rw [if_pos e12] at h
      refine x_tabIn (k := 12) (tgt := 1057) d_L_law_40 e12 (by decide) (by decide) rfl (by decide) ?_
      refine x_aload_n 1 d_L_law_1057 rfl rfl ?_
      refine x_aload_n 0 d_L_law_1058 rfl rfl ?_
      refine x_iload 4 d_L_law_1059 rfl ?_
      refine x_iconst (v := 1) d_L_law_1061 (by decide) ?_
      refine x_iadd d_L_law_1062 ?_
      refine x_sld rfl h d_L_law_1063 (fun v120 h => ?_)
      refine x_callV' (M' := m_P_count) (ax := [.inl v120]) (cv := cvI) (host := none) (st := []) h (fun q h l => s_P_count d x1 v120 S q h l D) hc_0 rfl d_L_law_1064 wm_L_109 wc_P_count rfl (Nat.le_of_ble_eq_true rfl) (fun q121 h => ?_)
      show V _ _ _ _ _ _ _ (.int q121.1 :: []) _
      refine x_aload_n 2 d_L_law_1067 rfl rfl ?_
      refine x_aload_n 0 d_L_law_1068 rfl rfl ?_
      refine x_iload 4 d_L_law_1069 rfl ?_
      refine x_iconst (v := 1) d_L_law_1071 (by decide) ?_
      refine x_iadd d_L_law_1072 ?_
      refine x_sld rfl h d_L_law_1073 (fun v122 h => ?_)
      refine x_callV' (M' := m_M_count) (ax := [.inl v122]) (cv := cvI) (host := none) (st := [.int q121.1]) h (fun q h l => s_M_count d x2 v122 q121.2 q h l D) hc_5 rfl d_L_law_1074 wm_L_112 wc_M_count rfl (Nat.le_of_ble_eq_true rfl) (fun q123 h => ?_)
      show V _ _ _ _ _ _ _ (.int q123.1 :: .int q121.1 :: []) _
      refine x_icmp_eq (tgt := 1082) d_L_law_1077 (by decide) h (fun h => ?_) (fun h => ?_)
      · refine x_ls [0, 1, 2, 3, 4] rfl ?_
        exact tb_L_law_1082 hk23 x1 x2 x3 x4 q123.2 _ h
      · refine x_iconst (v := 0) d_L_law_1080 (by decide) ?_
        exact x_zretI h rfl d_L_law_1081
    rw [if_neg e12] at h
    refine x_tabOut (tgt := 1082) d_L_law_40 (xtab_13 e0 e1 e2 e3 e4 e5 e6 e7 e8 e9 e10 e11 e12) (by decide) ?_
    refine x_ls [0, 1, 2, 3, 4] rfl ?_
    exact tb_L_law_1082 hk23 x1 x2 x3 x4 S _ h
theorem tl_L_law_23 {D : xD} {d : Nat} {S0 : xS} : ∀ (n : Nat) (x1 : Option Nat) (x2 : Option Nat) (x3 : Option Nat) (x4 : Int32) (S : xS) (z : Int32 × xS), l_L_law_23 D.2.2 d n x1 x2 x3 x4 S = some z → V m_L_law D (d + 1) S0 (cvI z) 23 [(0, .inr (.inr (some D.2.2.1))), (1, .inr (.inr x1)), (2, .inr (.inr x2)), (3, .inr (.inr x3)), (4, .inl x4)] [] S := by
  intro n
  induction n with
  | zero =>
    intro x1 x2 x3 x4 S z h
    cases h
  | succ n ih =>
    intro x1 x2 x3 x4 S z h
    exact tb_L_law_23  ih x1 x2 x3 x4 S z h
set_option maxRecDepth 100000 in
set_option maxHeartbeats 4000000 in
theorem te_L_law {D : xD} {d : Nat} {S0 : xS} : ∀  (S : xS) (z : Int32 × xS), e_L_law D.2.2 d  S = some z → V m_L_law D (d + 1) S0 (cvI z) 0 [(0, .inr (.inr (some D.2.2.1)))] [] S := by
  intro  S z h
  unfold e_L_law at h
  refine x_new h hc_0 hi_0 tyX_0 ht_0 rfl hdf_0 wk_L_8 wn_0 wi_P d_L_law_0 (fun q1 h => ?_)
  refine x_dup d_L_law_3 (xcat _) ?_
  refine x_callI' (M' := m_P_init) (ax := []) (cv := cvV) (host := none) (st := [va_rf (some q1.1)]) h (fun q h l => s_P_init d (some q1.1) q1.2 q h l D) rfl d_L_law_4 wm_L_54 wc_P_init rfl (Nat.le_of_ble_eq_true rfl) (fun q2 h => ?_)
  show V _ _ _ _ _ _ _ (va_rf (some q1.1) :: []) _
  refine x_astore_n (lv' := [(1, .inr (.inr (some q1.1))), (0, .inr (.inr (some D.2.2.1)))]) d_L_law_7 rfl (by decide) rfl ?_
  refine x_new h hc_5 hi_5 tyX_5 ht_5 rfl hdf_5 wk_L_55 wn_5 wi_M d_L_law_8 (fun q3 h => ?_)
  refine x_dup d_L_law_11 (xcat _) ?_
  refine x_callI' (M' := m_M_init) (ax := []) (cv := cvV) (host := none) (st := [va_rf (some q3.1)]) h (fun q h l => s_M_init d (some q3.1) q3.2 q h l D) rfl d_L_law_12 wm_L_57 wc_M_init rfl (Nat.le_of_ble_eq_true rfl) (fun q4 h => ?_)
  show V _ _ _ _ _ _ _ (va_rf (some q3.1) :: []) _
  refine x_astore_n (lv' := [(2, .inr (.inr (some q3.1))), (1, .inr (.inr (some q1.1))), (0, .inr (.inr (some D.2.2.1)))]) d_L_law_15 rfl (by decide) rfl ?_
  refine x_iconst (v := 1) d_L_law_16 (by decide) ?_
  refine x_newa h ha_1 rfl (fun _ _ => rfl) (fun _ _ => rfl) (by decide) wa_1 d_L_law_17 (fun q5 h => ?_)
  refine x_astore_n (lv' := [(3, .inr (.inr (some q5.1))), (2, .inr (.inr (some q3.1))), (1, .inr (.inr (some q1.1))), (0, .inr (.inr (some D.2.2.1)))]) d_L_law_19 rfl (by decide) rfl ?_
  refine x_iconst (v := 0) d_L_law_20 (by decide) ?_
  refine x_istore (lv' := [(4, .inl 0), (3, .inr (.inr (some q5.1))), (2, .inr (.inr (some q3.1))), (1, .inr (.inr (some q1.1))), (0, .inr (.inr (some D.2.2.1)))]) d_L_law_21 (by decide) rfl ?_
  refine x_ls [4, 3, 2, 1, 0] rfl ?_
  exact tl_L_law_23 xN (some q1.1) (some q3.1) (some q5.1) 0 q5.2 _ h
