/-! COPY, TAG, WIPE -/
def ocopy (C : Nat → List chr) (t a n into : Int32) (r : Int32 ⊕ Nat) (D : Nat → List chr) : Prop :=
  (¬ (rg C t a n ∧ tx into) ∧ r = .inr 2 ∧ D = C) ∨
  ∃ j k l i, j < 16 ∧ i < 16 ∧ t = nI j ∧ a = nI k ∧ n = nI l ∧ into = nI i ∧ k + l ≤ (C j).length ∧
    (((i = j ∨ C i ≠ []) ∧ r = .inr 0 ∧ D = C) ∨ (i ≠ j ∧ C i = [] ∧
    ((¬ (sm (fun t => (C t).length) 16 + l ≤ 4096 ∧ sm (fun t => np none (va_up C i (rng (C j) k (k + l)) t)) 16 ≤ 1024) ∧ r = .inr 1 ∧ D = C) ∨
      (sm (fun t => (C t).length) 16 + l ≤ 4096 ∧ sm (fun t => np none (va_up C i (rng (C j) k (k + l)) t)) 16 ≤ 1024 ∧ D = va_up C i (rng (C j) k (k + l)) ∧ r = .inl (nI (np none (D i)))))))
theorem c_copy {S : xS} {x nb d n m : Nat} {C : Nat → List chr} {bs : Nat → Int32} {G : Nat → Prop} (h : CI S x C nb bs G) (hd : 120 < d) (hr : rm S (n + 1030) (m + 8300)) (t a q into : Int32) :
    ∃ r S' D, f_P_copy d (some x) t a q into S = some (r, S') ∧ ocopy C t a q into r D ∧ CI S' x D nb bs G ∧ (∀ b, G b → S'.1 b = S.1 b) ∧ rm S' n m := by
  obtain ⟨d, rfl⟩ : ∃ e, d = e + 1 := ⟨d - 1, by omega⟩
  obtain ⟨B, R, T, g, rts, X, h, hC, hg, w⟩ := h
  subst hC
  have h1 := h.1
  have h3 := h.2.2.1
  have hrs : rm S (n + 1) (m + 6) := hr.less (by omega) (by omega)
  have hskip : CI (xskip S 6) x (fun t => chs (X t)) nb bs G := ⟨B, R, T, g, rts, X, h.skip 6, rfl, hg, w⟩
  show ∃ r S' D, e_P_copy d (some x) t a q into S = some (r, S') ∧ _
  rcases c_range h w (d := d) (by omega) hrs t a q with ⟨np', e⟩ | ⟨j, k, l, hj, rfl, rfl, rfl, hk, hpl, e⟩
  · refine ⟨.inr 2, xskip S 6, _, ?_, .inl ⟨fun g => np' g.1, rfl, rfl⟩, hskip, fun _ _ => rfl, hrs.skip⟩
    simp only [e_P_copy, gPo h1, e, Option.bind_some, xtry]
  rcases tx_cases into with ⟨cb0, nc⟩ | ⟨i, hi, rfl, _, _⟩
  · refine ⟨.inr 2, xskip S 6, _, ?_, .inl ⟨fun g => nc g.2, rfl, rfl⟩, hskip, fun _ _ => rfl, hrs.skip⟩
    simp only [e_P_copy, gPo h1, e, Option.bind_some, xtry, (c_text h1 h3 (d := d) (by omega) hrs).1 cb0]
  have e2 := (c_text h1 h3 (d := d) (t := nI i) (by omega) hrs).2 i hi rfl
  have hkl : k + l ≤ (chs (X j)).length := by rw [chs_len]; exact hk
  by_cases cf : i = j ∨ chs (X i) ≠ []
  · refine ⟨.inr 0, xskip S 6, _, ?_, .inr ⟨j, k, l, i, hj, hi, rfl, rfl, rfl, rfl, hkl, .inl ⟨cf, rfl, rfl⟩⟩, hskip, fun _ _ => rfl, hrs.skip⟩
    simp only [e_P_copy, gPo h1, e, Option.bind_some, xtry, e2, (c_free h (d := d) (by omega) hrs hi hj).1 cf]
  have hij : i ≠ j := fun g => cf (.inl g)
  have hXi : chs (X i) = [] := Classical.byContradiction fun g => cf (.inr g)
  have e3 := (c_free h (d := d) (by omega) hrs hi hj).2 hij hXi
  obtain ⟨w1, w2, w3, w4⟩ := id w
  dsimp only at w1 w2 w3
  obtain ⟨Rw, r1, r2, r3⟩ := CX_row h w hj
  have hnp1 := sm_np1 (fun t => chs (X t)) hi (rng (chs (X j)) k (k + l))
  have hln1 := sm_len1 (fun t => chs (X t)) hi (rng (chs (X j)) k (k + l))
  have npB := np_le (rng (chs (X j)) k (k + l)) none
  have hLB : (rng (chs (X j)) k (k + l)).length = l := by
    rw [rng_len hkl]; omega
  rw [hLB] at npB hln1
  rw [hXi] at hnp1 hln1
  simp only [np, List.length_nil] at hnp1 hln1
  have tI : (nI (np none (rng (chs (X j)) k (k + l)))).toInt = _ := nI_toInt (by omega)
  have hroom := c_room h w (d := d) (by omega) hrs (k := l) (by omega) (p := nI (np none (rng (chs (X j)) k (k + l)))) (by rw [tI]; omega)
  simp only [e_P_copy, gPo h1, e, Option.bind_some, xtry, e2, e3, c_rootOf h1 h3 (d := d) (by omega) hj, y_within Rw (d := d) (a := k) (n := l) (by omega) hk, hroom]
  by_cases c : sm (fun t => (chs (X t)).length) 16 + l ≤ 4096 ∧ sm (fun t => np none (va_up (fun t => chs (X t)) i (rng (chs (X j)) k (k + l)) t)) 16 ≤ 1024
  rotate_left 1
  · rw [if_neg (by rw [tI]; omega)]
    exact ⟨.inr 1, xskip S 6, _, rfl, .inr ⟨j, k, l, i, hj, hi, rfl, rfl, rfl, rfl, hkl, .inr ⟨hij, hXi, .inl ⟨c, rfl, rfl⟩⟩⟩, hskip, fun _ _ => rfl, hrs.skip⟩
  rw [if_pos (by rw [tI]; omega)]
  obtain ⟨w', hw'⟩ := h.2.2.2.2.2.2.2.1.T
  obtain ⟨h', tj⟩ := h.2.2.2.1 j hj
  have nj := h.2.2.2.2.1 j hj
  have s0 : St S T (FA x B R X G (fun t => t = i)) := (h.fst (fun t => t = i) (L := []) (fun a ha => nomatch ha)).less fun b hb => .inl hb
  obtain ⟨S1, r4, h4, z4, f4, t4, n4, e4, N4, K4, s4, fr4, rm4, l4⟩ := t_twin 40 (d := d) (f := k) (t' := k + l) (n := n) (m := m) tj nj s0 (fun a ha => .inr (.inr (.inr (.inr ⟨j, hj, Ne.symm hij, ha⟩)))) (by omega) (by omega) (by omega) (by omega) (.inl rfl) r3 (by have := tr_low tj (by omega); omega) (by omega) (by omega) (hr.less (by omega) (by omega))
  have hf4 : f_T_twin d (some T) (rts j) (nI k) (nI k + nI l) 40 S = some (r4, S1) := by rw [nI_add]; exact f4
  have x4 := (fr4 x (.inr (.inl rfl))).trans h1
  have R4 := (fr4 R (.inr (.inr (.inr (.inl rfl))))).trans h3
  have hfin := c_become (d := d) x4 R4 hi t4 (by omega)
  obtain ⟨hCX, hG⟩ := CX_fin (rts' := va_up rts i r4) (X' := va_up X i z4) (L := ads z4) h (fun t => t = i) (S4 := S1) (fun b hb _ => fr4 b hb) R4 s4 (fun v _ hv => ⟨va_up_ne _ _ hv, va_up_ne _ _ hv⟩) (fun v _ hv => by
      subst hv
      rw [va_up_self, va_up_self]
      exact ⟨⟨h4, t4⟩, n4, N4, fun a ha => ⟨K4 a ha, ha⟩⟩) (fun v u _ _ e1 e2 e3 => absurd (e1.trans e2.symm) e3)
  have wf' : WF (va_up (fun t => chs (X t)) i (rng (chs (X j)) k (k + l))) nb := WF_up1 w (by omega) c.2 (fun c hc => by
    unfold rng at hc
    exact w3 j hj c (List.mem_of_mem_take (List.mem_of_mem_drop hc)))
  have eC : (fun t => chs (va_up X i z4 t)) = va_up (fun t => chs (X t)) i (rng (chs (X j)) k (k + l)) := by
    funext u
    by_cases e1 : u = i
    · subst e1; rw [va_up_self, va_up_self, e4]
    · rw [va_up_ne _ _ e1, va_up_ne _ _ e1]
  obtain ⟨Rn, _⟩ := CX_row hCX (by rw [eC]; exact wf') hi
  refine ⟨.inl (nI z4.length), xset S1 R (rarr (va_up rts i r4)), va_up (fun t => chs (X t)) i (rng (chs (X j)) k (k + l)), ?_, ?_, ⟨B, R, T, g, _, _, hCX, eC, hg, wf'⟩, hG, rm4.same rfl⟩
  · rw [va_up_self, va_up_self] at Rn
    have q5 := c_rootOf (d := d) hCX.1 hCX.2.2.1 (by omega) hi
    rw [va_up_self] at q5
    simp only [gP3 h1, hw', Option.bind_some, hf4, gPo x4, hfin, gPo hCX.1, q5, row_pieces Rn (d := d) (by omega)]
  · refine .inr ⟨j, k, l, i, hj, hi, rfl, rfl, rfl, rfl, hkl, .inr ⟨hij, hXi, .inr ⟨c.1, c.2, rfl, ?_⟩⟩⟩
    rw [va_up_self, ← e4, nrm_np n4]
def otag (C : Nat → List chr) (t a n mask bits : Int32) (r : Int32 ⊕ Nat) (D : Nat → List chr) : Prop :=
  (¬ rg C t a n ∧ r = .inr 2 ∧ D = C) ∨
  ∃ j k l, j < 16 ∧ t = nI j ∧ a = nI k ∧ n = nI l ∧ k + l ≤ (C j).length ∧
    ((¬ sm (fun t => np none (va_up C j ((C j).take k ++ ((rng (C j) k (k + l)).map (tgc mask bits) ++ (C j).drop (k + l))) t)) 16 ≤ 1024 ∧ r = .inr 1 ∧ D = C) ∨
      (sm (fun t => np none (va_up C j ((C j).take k ++ ((rng (C j) k (k + l)).map (tgc mask bits) ++ (C j).drop (k + l))) t)) 16 ≤ 1024 ∧ D = va_up C j ((C j).take k ++ ((rng (C j) k (k + l)).map (tgc mask bits) ++ (C j).drop (k + l))) ∧ r = .inl (nI (np none (D j)))))
theorem c_tag {S : xS} {x nb d n m : Nat} {C : Nat → List chr} {bs : Nat → Int32} {G : Nat → Prop} (h : CI S x C nb bs G) (hd : 120 < d) (hr : rm S (n + 100) (m + 800)) (t a q mask bits : Int32) :
    ∃ r S' D, f_P_tag d (some x) t a q mask bits S = some (r, S') ∧ otag C t a q mask bits r D ∧ CI S' x D nb bs G ∧ (∀ b, G b → S'.1 b = S.1 b) ∧ rm S' n m := by
  obtain ⟨d, rfl⟩ : ∃ e, d = e + 1 := ⟨d - 1, by omega⟩
  obtain ⟨B, R, T, g, rts, X, h, hC, hg, w⟩ := h
  subst hC
  have h1 := h.1
  have h3 := h.2.2.1
  have hrs : rm S (n + 1) (m + 6) := hr.less (by omega) (by omega)
  have hskip : CI (xskip S 6) x (fun t => chs (X t)) nb bs G := ⟨B, R, T, g, rts, X, h.skip 6, rfl, hg, w⟩
  show ∃ r S' D, e_P_tag d (some x) t a q mask bits S = some (r, S') ∧ _
  rcases c_range h w (d := d) (by omega) hrs t a q with ⟨np', e⟩ | ⟨j, k, l, hj, rfl, rfl, rfl, hk, hpl, e⟩
  · refine ⟨.inr 2, xskip S 6, _, ?_, .inl ⟨np', rfl, rfl⟩, hskip, fun _ _ => rfl, hrs.skip⟩
    simp only [e_P_tag, gPo h1, e, Option.bind_some, xtry]
  have hkl : k + l ≤ (chs (X j)).length := by rw [chs_len]; exact hk
  obtain ⟨w1, w2, w3, w4⟩ := id w
  dsimp only at w1 w2 w3
  obtain ⟨Rw, r1, r2, r3⟩ := CX_row h w hj
  have hnp1 := sm_np1 (fun t => chs (X t)) hj ((chs (X j)).take k ++ ((rng (chs (X j)) k (k + l)).map (tgc mask bits) ++ (chs (X j)).drop (k + l)))
  have hln1 := sm_len1 (fun t => chs (X t)) hj ((chs (X j)).take k ++ ((rng (chs (X j)) k (k + l)).map (tgc mask bits) ++ (chs (X j)).drop (k + l)))
  have npX := row_np Rw
  have npA := np_le ((chs (X j)).take k ++ ((rng (chs (X j)) k (k + l)).map (tgc mask bits) ++ (chs (X j)).drop (k + l))) none
  have hLA : ((chs (X j)).take k ++ ((rng (chs (X j)) k (k + l)).map (tgc mask bits) ++ (chs (X j)).drop (k + l))).length = tot (X j) := by
    simp only [List.length_append, List.length_take, List.length_drop, List.length_map, rng_len hkl, chs_len]; omega
  have hLj := chs_len (X j)
  rw [hLA] at npA hln1
  have tI : (nI (np none ((chs (X j)).take k ++ ((rng (chs (X j)) k (k + l)).map (tgc mask bits) ++ (chs (X j)).drop (k + l)))) - nI (X j).length).toInt = _ := pk_sub31 (by omega) (by omega)
  have hroom := c_room h w (d := d) (by omega) hrs (k := 0) (by omega) (p := nI (np none ((chs (X j)).take k ++ ((rng (chs (X j)) k (k + l)).map (tgc mask bits) ++ (chs (X j)).drop (k + l)))) - nI (X j).length) (by rw [tI]; omega)
  simp only [e_P_tag, gPo h1, e, Option.bind_some, xtry, c_rootOf h1 h3 (d := d) (by omega) hj, y_tag Rw r3 mask bits (d := d) (a := k) (n := l) (by omega) hk, row_pieces Rw (d := d) (by omega)]
  rw [show f_P_demandRoom d (some x) 0 = f_P_demandRoom d (some x) (nI 0) from rfl, hroom]
  by_cases c : sm (fun t => np none (va_up (fun t => chs (X t)) j ((chs (X j)).take k ++ ((rng (chs (X j)) k (k + l)).map (tgc mask bits) ++ (chs (X j)).drop (k + l))) t)) 16 ≤ 1024
  rotate_left 1
  · rw [if_neg (by rw [tI]; omega)]
    exact ⟨.inr 1, xskip S 6, _, rfl, .inr ⟨j, k, l, hj, rfl, rfl, rfl, hkl, .inl ⟨c, rfl, rfl⟩⟩, hskip, fun _ _ => rfl, hrs.skip⟩
  rw [if_pos (by rw [tI]; omega)]
  obtain ⟨w', hw'⟩ := h.2.2.2.2.2.2.2.1.T
  obtain ⟨h', tj⟩ := h.2.2.2.1 j hj
  have nj := h.2.2.2.2.1 j hj
  obtain ⟨Nj, _⟩ := h.2.2.2.2.2.1 j hj
  have s0 := h.fst (fun t => t = j) (L := ads (X j)) (fun a ha => ⟨j, hj, rfl, ha⟩)
  have f0 : ∀ a ∈ ads (X j), ¬ FA x B R X G (fun t => t = j) a := fun a ha => h.fno (fun t => t = j) hj rfl ha
  obtain ⟨S1, K, l', r', hy, hz, ys, zs, f1, k1, ty, tz, ey, ez, ny, nz, Nyz, nK, hF1, s1, fr1, rm1, len1⟩ := t_part (d := d) (f := k) (n := n + 50) (m := m + 400) tj Nj nj s0 f0 (by omega) (by omega) (by omega) r3 (by omega) (hr.less (by omega) (by omega))
  have x1 := (fr1 x (.inr (.inl rfl))).trans h1
  obtain ⟨w1', hw1'⟩ := s1.T
  obtain ⟨Ny, Nz, Nd⟩ := nodup_un Nyz
  have mY : ∀ e ∈ ads ys, e ∈ ads (ys ++ zs) := fun e he => by rw [ads_app]; exact List.mem_append_left _ he
  have mZ : ∀ e ∈ ads zs, e ∈ ads (ys ++ zs) := fun e he => by rw [ads_app]; exact List.mem_append_right _ he
  have totz : tot zs = tot (X j) - k := by rw [← chs_len, ez, List.length_drop, chs_len]
  obtain ⟨S2, K2, l2, r2', hu, hv, us, vs, f2, k2, tu, tv, eu, ev, nu, nv, Nuv, nK2, hF2, s2, fr2, rm2, len2⟩ := t_part (d := d) (f := l) (n := n) (m := m) (F := un (FA x B R X G (fun t => t = j)) (K :: ads ys)) tz Nz nz (s1.less fun b hb => by
      rcases hb with (g | g) | g
      · exact .inl g
      · rcases List.mem_cons.mp g with g | g
        · exact .inr (by simp [g])
        · exact .inr (List.mem_cons_of_mem _ (mY b g))
      · exact .inr (List.mem_cons_of_mem _ (mZ b g))) (fun a ha g => by
      rcases g with g | g
      · exact (hF1 a (mZ a ha)).1 g
      · rcases List.mem_cons.mp g with g | g
        · exact (hF1 a (mZ a ha)).2 g
        · exact Nd a g ha) (by omega) (by omega) (by omega) (fun c hc => r3 c (by rw [ez] at hc; exact List.mem_of_mem_drop hc)) (by omega) (rm1.less (by omega) (by omega))
  have x2 := (fr2 x (.inl (.inr (.inl rfl)))).trans x1
  have k12 := (fr2 K (.inr (by simp))).trans k1
  obtain ⟨w2', hw2'⟩ := s2.T
  have mU : ∀ e ∈ ads us, e ∈ ads (us ++ vs) := fun e he => by rw [ads_app]; exact List.mem_append_left _ he
  have mV : ∀ e ∈ ads vs, e ∈ ads (us ++ vs) := fun e he => by rw [ads_app]; exact List.mem_append_right _ he
  obtain ⟨Nu, Nv, Nuvd⟩ := nodup_un Nuv
  have ty2 : tr S2.1 hy l' ys := tr_kept ty fun b hb => fr2 b (.inr (List.mem_cons_of_mem _ hb))
  have Nyv : ∀ e ∈ ads ys, e ∉ ads vs := fun e he g => (hF2 e (mV e g)).1 (.inr (List.mem_cons_of_mem _ he))
  have Nyu : ∀ e ∈ ads ys, e ∉ ads us := fun e he g => (hF2 e (mU e g)).1 (.inr (List.mem_cons_of_mem _ he))
  have euC : chs us = rng (chs (X j)) k (k + l) := by rw [eu, ez, take_drop']
  have evC : chs vs = (chs (X j)).drop (k + l) := by rw [ev, ez, drop_drop']
  have rngb : ∀ c ∈ rng (chs (X j)) k (k + l), c.1 < nb := fun c hc => by
    unfold rng at hc
    exact w3 j hj c (List.mem_of_mem_take (List.mem_of_mem_drop hc))
  obtain ⟨S3, r3', h3', ms, f3, tm, nm, em, Nm, Km, s3, fr3, m3, l3⟩ := t_retag mask bits 40 (d := d) (F := un (FA x B R X G (fun t => t = j)) (K :: K2 :: (ads ys ++ ads vs))) tu Nu (nrm_pos nu) (s2.less fun b hb => by
      rcases hb with (g | g) | g
      · exact .inl (.inl g)
      · rcases List.mem_cons.mp g with g | g
        · exact .inl (.inr (by simp [g]))
        · rcases List.mem_cons.mp g with g | g
          · exact .inr (by simp [g])
          · rcases List.mem_append.mp g with g | g
            · exact .inl (.inr (List.mem_cons_of_mem _ g))
            · exact .inr (List.mem_cons_of_mem _ (mV b g))
      · exact .inr (List.mem_cons_of_mem _ (mU b g))) (fun a ha g => by
      rcases g with g | g
      · exact (hF2 a (mU a ha)).1 (.inl g)
      · rcases List.mem_cons.mp g with g | g
        · exact (hF2 a (mU a ha)).1 (.inr (by simp [g]))
        · rcases List.mem_cons.mp g with g | g
          · exact (hF2 a (mU a ha)).2 g
          · rcases List.mem_append.mp g with g | g
            · exact Nyu a g ha
            · exact Nuvd a ha g) (by omega) (fun c hc => by
      rw [euC] at hc
      have := rngb c hc
      omega) (by have := tr_low tu (by omega); omega) (by omega) (by omega)
  have hf3 : f_T_retag d (some T) l2 mask bits 40 S2 = some (r3', S3) := f3
  have x3 := (fr3 x (.inl (.inr (.inl rfl)))).trans x2
  have k13 := (fr3 K (.inr (by simp))).trans k12
  have k23 := (fr3 K2 (.inr (by simp))).trans k2
  obtain ⟨w3', hw3'⟩ := s3.T
  have ty3 : tr S3.1 hy l' ys := tr_kept ty2 fun b hb => fr3 b (.inr (by simp [hb]))
  have tv3 : tr S3.1 hv r2' vs := tr_kept tv fun b hb => fr3 b (.inr (by simp [hb]))
  have memE : ∀ e, e ∈ ads (ys ++ (ms ++ vs)) → e ∈ ads ys ∨ e ∈ ads ms ∨ e ∈ ads vs := fun e => by
    simp only [ads_app, List.mem_append]; exact id
  have cbA : ∀ c ∈ (chs (X j)).take k ++ ((rng (chs (X j)) k (k + l)).map (tgc mask bits) ++ (chs (X j)).drop (k + l)), c.1 < nb := fun c hc => by
    rw [List.mem_append, List.mem_append] at hc
    rcases hc with g | g | g
    · exact w3 j hj c (List.mem_of_mem_take g)
    · obtain ⟨y, hy, rfl⟩ := List.mem_map.mp g
      exact rngb y hy
    · exact w3 j hj c (List.mem_of_mem_drop g)
  obtain ⟨r5', S5, r4, S4, z4, h4, f5, fr5, hw5, f4, t4, n4, e4, N4, K4, s4, fr4, m4, l4⟩ := t_meet2 (d := d) (F := un (FA x B R X G (fun t => t = j)) [K, K2]) ty3 tm tv3 (by
      rw [ads_app, List.nodup_append, ads_app, List.nodup_append]
      refine ⟨Ny, ⟨Nm, Nv, fun e he g hg h => ?_⟩, fun e he g hg h => ?_⟩
      · subst h
        exact Nuvd e (Km e he) hg
      · subst h
        rcases List.mem_append.mp hg with g' | g'
        · exact Nyu e he (Km e g')
        · exact Nyv e he g') ny nm nv (s3.less fun b hb => by
      rcases hb with (g | g) | g
      · exact .inl (.inl g)
      · exact .inl (.inr (by simp at g; rcases g with g | g <;> simp [g]))
      · rcases memE b g with g | g | g
        · exact .inl (.inr (by simp [g]))
        · exact .inr g
        · exact .inl (.inr (by simp [g]))) (fun b hb g => by
      rcases memE b hb with e | e | e
      · rcases g with g | g
        · exact (hF1 b (mY b e)).1 g
        · simp at g
          rcases g with g | g
          · exact (hF1 b (mY b e)).2 g
          · exact nK2 (.inr (by rw [← g]; exact List.mem_cons_of_mem _ e))
      · rcases g with g | g
        · exact (hF2 b (mU b (Km b e))).1 (.inl g)
        · simp at g
          rcases g with g | g
          · exact (hF2 b (mU b (Km b e))).1 (.inr (by simp [g]))
          · exact (hF2 b (mU b (Km b e))).2 g
      · rcases g with g | g
        · exact (hF2 b (mV b e)).1 (.inl g)
        · simp at g
          rcases g with g | g
          · exact (hF2 b (mV b e)).1 (.inr (by simp [g]))
          · exact (hF2 b (mV b e)).2 g) (by omega) (fun c hc => by
      rw [chs_app, chs_app, ey, em, euC, evC] at hc
      have := cbA c hc
      omega) (by omega)
  have x5 := (fr5 x (.inl (.inr (.inl rfl)))).trans x3
  have k25 := (fr5 K2 (.inr (by simp))).trans k23
  obtain ⟨w5', hw5'⟩ := hw5
  have x4 := (fr4 x (.inl (.inr (.inl rfl)))).trans x3
  have fr14 : ∀ b, FA x B R X G (fun t => t = j) b → S4.1 b = S.1 b := fun b hb => by
    rw [fr4 b (.inl hb), fr3 b (.inl hb), fr2 b (.inl hb), fr1 b hb]
  have R4 := (fr14 R (.inr (.inr (.inr (.inl rfl))))).trans h3
  have hfin := c_become (d := d) x4 R4 hj t4 (by omega)
  have ec4 : chs z4 = (chs (X j)).take k ++ ((rng (chs (X j)) k (k + l)).map (tgc mask bits) ++ (chs (X j)).drop (k + l)) := by rw [e4, ey, em, euC, evC]
  obtain ⟨hCX, hG⟩ := CX_fin (rts' := va_up rts j r4) (X' := va_up X j z4) (L := ads z4) h (fun t => t = j) (S4 := S4) (fun b hb _ => fr14 b hb) R4 (s4.less fun b hb => hb.imp .inl id) (fun v _ hv => ⟨va_up_ne _ _ hv, va_up_ne _ _ hv⟩) (fun v _ hv => by
      subst hv
      rw [va_up_self, va_up_self]
      refine ⟨⟨h4, t4⟩, n4, N4, fun a ha => ⟨?_, ha⟩⟩
      rcases memE a (K4 a ha) with e | e | e
      · exact (hF1 a (mY a e)).1
      · exact fun g => (hF2 a (mU a (Km a e))).1 (.inl g)
      · exact fun g => (hF2 a (mV a e)).1 (.inl g)) (fun v u _ _ e1 e2 e3 => absurd (e1.trans e2.symm) e3)
  have wf' : WF (va_up (fun t => chs (X t)) j ((chs (X j)).take k ++ ((rng (chs (X j)) k (k + l)).map (tgc mask bits) ++ (chs (X j)).drop (k + l)))) nb := WF_up1 w (by omega) c cbA
  have eC : (fun t => chs (va_up X j z4 t)) = va_up (fun t => chs (X t)) j ((chs (X j)).take k ++ ((rng (chs (X j)) k (k + l)).map (tgc mask bits) ++ (chs (X j)).drop (k + l))) := by
    funext u
    by_cases e1 : u = j
    · subst e1; rw [va_up_self, va_up_self, ec4]
    · rw [va_up_ne _ _ e1, va_up_ne _ _ e1]
  obtain ⟨Rn, _⟩ := CX_row hCX (by rw [eC]; exact wf') hj
  refine ⟨.inl (nI z4.length), xset S4 R (rarr (va_up rts j r4)), va_up (fun t => chs (X t)) j ((chs (X j)).take k ++ ((rng (chs (X j)) k (k + l)).map (tgc mask bits) ++ (chs (X j)).drop (k + l))), ?_, ?_, ⟨B, R, T, g, _, _, hCX, eC, hg, wf'⟩, hG, rm2.same (by rw [xset_2, m4, m3])⟩
  · rw [va_up_self, va_up_self] at Rn
    have q5 := c_rootOf (d := d) hCX.1 hCX.2.2.1 (by omega) hj
    rw [va_up_self] at q5
    simp only [gP3 h1, hw', f1, Option.bind_some, gP3 x1, gK1 k1, hw1', f2, gP3 x2, gK0 k2, hw2', hf3, gP3 x3, gK0 k13, hw3', f5, gK1 k25, hw5', f4, gPo x4, hfin, gPo hCX.1, q5, row_pieces Rn (d := d) (by omega)]
  · refine .inr ⟨j, k, l, hj, rfl, rfl, rfl, hkl, .inr ⟨c, rfl, ?_⟩⟩
    rw [va_up_self, ← ec4, nrm_np n4]
def owipe (C : Nat → List chr) (t : Int32) (r : Int32 ⊕ Nat) (D : Nat → List chr) : Prop :=
  (¬ tx t ∧ r = .inr 2 ∧ D = C) ∨ ∃ j, j < 16 ∧ t = nI j ∧ D = va_up C j [] ∧ r = .inl (nI (C j).length)
theorem c_wipe {S : xS} {x nb d n m : Nat} {C : Nat → List chr} {bs : Nat → Int32} {G : Nat → Prop} (h : CI S x C nb bs G) (hd : 120 < d) (hr : rm S (n + 100) (m + 800)) (t : Int32) :
    ∃ r S' D, f_P_wipe d (some x) t S = some (r, S') ∧ owipe C t r D ∧ CI S' x D nb bs G ∧ (∀ b, G b → S'.1 b = S.1 b) ∧ rm S' n m := by
  obtain ⟨d, rfl⟩ : ∃ e, d = e + 1 := ⟨d - 1, by omega⟩
  obtain ⟨B, R, T, g, rts, X, h, hC, hg, w⟩ := h
  subst hC
  have h1 := h.1
  have h3 := h.2.2.1
  have hrs : rm S (n + 1) (m + 6) := hr.less (by omega) (by omega)
  have hskip : CI (xskip S 6) x (fun t => chs (X t)) nb bs G := ⟨B, R, T, g, rts, X, h.skip 6, rfl, hg, w⟩
  show ∃ r S' D, e_P_wipe d (some x) t S = some (r, S') ∧ _
  rcases tx_cases t with ⟨cb0, nc⟩ | ⟨j, hj, rfl, _, _⟩
  · refine ⟨.inr 2, xskip S 6, _, ?_, .inl ⟨nc, rfl, rfl⟩, hskip, fun _ _ => rfl, hrs.skip⟩
    simp only [e_P_wipe, gPo h1, Option.bind_some, xtry, (c_text h1 h3 (d := d) (by omega) hrs).1 cb0]
  have e2 := (c_text h1 h3 (d := d) (t := nI j) (by omega) hrs).2 j hj rfl
  obtain ⟨w1, w2, w3, w4⟩ := id w
  dsimp only at w1 w2 w3
  obtain ⟨Rw, r1, r2, r3⟩ := CX_row h w hj
  obtain ⟨h', tj⟩ := h.2.2.2.1 j hj
  obtain ⟨Nj, _⟩ := h.2.2.2.2.2.1 j hj
  have b2 := c_become (d := d) (r := none) h1 h3 hj (tr_nil _) (by omega)
  have hnp1 := sm_np1 (fun t => chs (X t)) hj []
  have hln1 := sm_len1 (fun t => chs (X t)) hj []
  simp only [np, List.length_nil] at hnp1 hln1
  have FAR : FA x B R X G (fun t => t = j) R := .inr (.inr (.inr (.inl rfl)))
  have s0 := h.fst (fun t => t = j) (L := ads (X j)) (fun a ha => ⟨j, hj, rfl, ha⟩)
  have f0 : ∀ a ∈ ads (X j), ¬ FA x B R X G (fun t => t = j) a := fun a ha => h.fno (fun t => t = j) hj rfl ha
  have s1 : St (xset S R (rarr (va_up rts j none))) T (un (FA x B R X G (fun t => t = j)) (ads (X j))) := s0.kept rfl fun b hb => xset_ne _ (fun e => hb (.inl (.inr (.inr (.inr (.inl e))))))
  have tj1 : tr (xset S R (rarr (va_up rts j none))).1 h' (rts j) (X j) := tr_kept tj fun b hb => xset_ne _ (h.node hj hb).2.2.1
  have xR : x ≠ R := fun e => by rw [e, h3] at h1; simp [pobj, rarr] at h1
  have x1 : (xset S R (rarr (va_up rts j none))).1 x = some (pobj B nb R T) := by rw [xset_ne _ xR, h1]
  obtain ⟨w1', hw1'⟩ := s1.T
  obtain ⟨S2, f2, s2, fr2, m2⟩ := t_giveAll 40 (d := d) tj1 Nj s1 f0 (by have := tr_low tj (by omega); omega) (by omega) (by omega)
  have hf2 : f_T_giveBackAll d (some T) (rts j) 40 (xset S R (rarr (va_up rts j none))) = some ((), S2) := f2
  have R2 := (fr2 R FAR).trans (xset_at _ _ _)
  have hCX : CX S2 x B R T nb g (va_up rts j none) (va_up X j []) G := by
    refine CX_mk h (fun t => t = j) (fun b hb hbR => by rw [fr2 b hb, xset_ne _ hbR]) R2 (fun v _ hv => ⟨va_up_ne _ _ hv, va_up_ne _ _ hv⟩) (fun v _ hv => by
      subst hv
      rw [va_up_self, va_up_self]
      exact ⟨⟨0, tr_nil _⟩, trivial, by simp [ads], fun a ha => nomatch ha⟩) (fun v u _ _ e1 e2 e3 => absurd (e1.trans e2.symm) e3) (s2.less fun b hb => ?_)
    rcases hb with e | e | e | e | ⟨u, hu, e⟩
    · exact .inl e
    · exact .inr (.inl e)
    · exact .inr (.inr (.inl e))
    · exact .inr (.inr (.inr (.inl e)))
    · by_cases c' : u = j
      · subst c'; rw [va_up_self] at e; cases e
      · rw [va_up_ne _ _ c'] at e
        exact .inr (.inr (.inr (.inr ⟨u, hu, c', e⟩)))
  refine ⟨.inl (nI (tot (X j))), S2, va_up (fun t => chs (X t)) j [], ?_, .inr ⟨j, hj, rfl, rfl, by rw [chs_len]⟩, ⟨B, R, T, g, _, _, hCX, ?_, hg, WF_up1 w (by omega) (by omega) (fun c hc => nomatch hc)⟩, fun b hb => ?_, (hr.less (by omega) (by omega)).same (by rw [m2]; rfl)⟩
  · simp only [e_P_wipe, gPo h1, Option.bind_some, xtry, e2, c_rootOf h1 h3 (d := d) (by omega) hj, row_chars Rw (d := d) (by omega), b2, gP3 x1, hw1', hf2]
  · funext u
    by_cases e1 : u = j
    · subst e1; rw [va_up_self, va_up_self]; rfl
    · rw [va_up_ne _ _ e1, va_up_ne _ _ e1]
  · rw [fr2 b (.inl hb), xset_ne _ (fun e => h.2.2.2.2.2.2.2.2.2.2 (by rw [← e]; exact hb))]
