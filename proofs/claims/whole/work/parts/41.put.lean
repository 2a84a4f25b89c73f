/-! PUT -/
theorem t_meet2 {S : xS} {T d hl hm hq : Nat} {l m q : Option Nat} {xl xm xq : List nd} {F : Nat → Prop} (tl : tr S.1 hl l xl) (tm : tr S.1 hm m xm) (tq : tr S.1 hq q xq) (N : (ads (xl ++ (xm ++ xq))).Nodup) (nl : nrm none xl) (nm : nrm none xm) (nq : nrm none xq) (hs : St S T (un F (ads (xl ++ (xm ++ xq))))) (hF : ∀ a ∈ ads (xl ++ (xm ++ xq)), ¬ F a) (hlen : xl.length + xm.length + xq.length < 2000) (cb : ∀ c ∈ chs (xl ++ (xm ++ xq)), c.1 < 4096) (hd : 60 < d) :
    ∃ (r1 : Option Nat) (S1 : xS) (r2 : Option Nat) (S2 : xS) (z : List nd) (h : Nat), f_T_meet d (some T) l m S = some (r1, S1) ∧ (∀ b, F b → S1.1 b = S.1 b) ∧ (∃ w, xobj S1 (some T) 4 = some w) ∧ f_T_meet d (some T) r1 q S1 = some (r2, S2) ∧ tr S2.1 h r2 z ∧ nrm none z ∧ chs z = chs xl ++ (chs xm ++ chs xq) ∧ (ads z).Nodup ∧ (∀ a ∈ ads z, a ∈ ads (xl ++ (xm ++ xq))) ∧ St S2 T (un F (ads z)) ∧ (∀ b, F b → S2.1 b = S.1 b) ∧ S2.2 = S.2 ∧ z.length ≤ xl.length + xm.length + xq.length := by
  have e0 : xl ++ (xm ++ xq) = (xl ++ xm) ++ xq := by simp
  rw [e0] at N hs hF cb
  obtain ⟨N1, N2, N3⟩ := nodup_un N
  have mem1 : ∀ e, e ∈ ads (xl ++ xm) → e ∈ ads (xl ++ xm ++ xq) := fun e he => by rw [ads_app (xl ++ xm)]; exact List.mem_append_left _ he
  have mem2 : ∀ e, e ∈ ads xq → e ∈ ads (xl ++ xm ++ xq) := fun e he => by rw [ads_app (xl ++ xm)]; exact List.mem_append_right _ he
  obtain ⟨r1, S1, z1, h1, f1, t1, n1, e1, M1, K1, s1, fr1, m1, l1⟩ := t_meet (d := d) (F := un F (ads xq)) tl tm N1 nl nm (hs.less fun b hb => by
      rcases hb with (g | g) | g
      · exact .inl g
      · exact .inr (mem2 b g)
      · exact .inr (mem1 b g)) (fun a ha g => by
      rcases g with g | g
      · exact hF a (mem1 a ha) g
      · exact N3 a ha g) (by omega) (fun c hc => cb c (by rw [chs_app (xl ++ xm)]; exact List.mem_append_left _ hc)) hd
  have tq1 : tr S1.1 hq q xq := tr_kept tq fun b hb => fr1 b (.inr hb)
  obtain ⟨r2, S2, z2, h2, f2, t2, n2, e2, M2, K2, s2, fr2, m2, l2⟩ := t_meet (d := d) (F := F) t1 tq1 (by
      rw [ads_app, List.nodup_append]
      exact ⟨M1, N2, fun e he g hg h => N3 e (K1 e he) (by rw [h]; exact hg)⟩) n1 nq (s1.less fun b hb => by
      rcases hb with g | g
      · exact .inl (.inl g)
      · rw [ads_app, List.mem_append] at g
        exact g.elim .inr fun g => .inl (.inr g)) (fun a ha => by
      rw [ads_app, List.mem_append] at ha
      rcases ha with g | g
      · exact hF a (mem1 a (K1 a g))
      · exact hF a (mem2 a g)) (by omega) (fun c hc => by
      rw [chs_app, List.mem_append, e1] at hc
      refine cb c ?_
      rw [chs_app, chs_app]
      exact List.mem_append.mpr hc) hd
  refine ⟨r1, S1, r2, S2, z2, h2, f1, fun b hb => fr1 b (.inl hb), s1.T, f2, t2, n2, by rw [e2, e1]; simp, M2, fun a ha => ?_, s2, fun b hb => by rw [fr2 b hb, fr1 b (.inl hb)], by rw [m2, m1], by omega⟩
  rw [e0]
  have := K2 a ha
  rw [ads_app, List.mem_append] at this
  exact this.elim (fun g => mem1 a (K1 a g)) (mem2 a)
/-- what stays when the texts of A are changed -/
def FA (x B R : Nat) (X : Nat → List nd) (G : Nat → Prop) (A : Nat → Prop) : Nat → Prop := fun b => G b ∨ b = x ∨ b = B ∨ b = R ∨ ∃ t, t < 16 ∧ ¬ A t ∧ b ∈ ads (X t)
section CXs
variable {S : xS} {x B R T nb : Nat} {g : Nat → Int32} {rts : Nat → Option Nat} {X : Nat → List nd} {G : Nat → Prop}
theorem CX.node (h : CX S x B R T nb g rts X G) {t : Nat} (ht : t < 16) {a : Nat} (ha : a ∈ ads (X t)) : a ≠ x ∧ a ≠ B ∧ a ≠ R ∧ a ≠ T := by
  obtain ⟨h1, h2, h3, h4, _, _, _, h8, _⟩ := h
  obtain ⟨hh, T'⟩ := h4 t ht
  obtain ⟨y, hy, rfl⟩ := List.mem_map.mp (show a ∈ (X t).map (fun x => x.1) from ha)
  obtain ⟨_, _, _, _, _, e⟩ := tr_cell T' y hy
  refine ⟨fun g => ?_, fun g => ?_, fun g => ?_, fun g => ?_⟩
  · rw [g, h1] at e; simp [pcell, pobj] at e
  · rw [g, h2] at e; simp [pcell, barr] at e
  · rw [g, h3] at e; simp [pcell, rarr] at e
  · obtain ⟨_, ⟨sp, ys, e1, _⟩, _⟩ := h8
    rw [g, e1] at e; simp [pcell] at e
theorem CX.fst (h : CX S x B R T nb g rts X G) (A : Nat → Prop) {L : List Nat} (hL : ∀ a ∈ L, ∃ t, t < 16 ∧ A t ∧ a ∈ ads (X t)) : St S T (un (FA x B R X G A) L) := by
  refine h.2.2.2.2.2.2.2.1.less fun b hb => ?_
  rcases hb with (g | g | g | g | ⟨t, g1, _, g2⟩) | g
  · exact .inl g
  · exact .inr (.inl g)
  · exact .inr (.inr (.inl g))
  · exact .inr (.inr (.inr (.inl g)))
  · exact .inr (.inr (.inr (.inr ⟨t, g1, g2⟩)))
  · obtain ⟨t, g1, _, g2⟩ := hL b g
    exact .inr (.inr (.inr (.inr ⟨t, g1, g2⟩)))
theorem CX.fno (h : CX S x B R T nb g rts X G) (A : Nat → Prop) {t : Nat} (ht : t < 16) (hA : A t) {a : Nat} (ha : a ∈ ads (X t)) : ¬ FA x B R X G A a := by
  obtain ⟨n1, n2, n3, _⟩ := h.node ht ha
  rintro (g | g | g | g | ⟨u, g1, g2, g3⟩)
  · exact (h.2.2.2.2.2.1 t ht).2 a ha g
  · exact n1 g
  · exact n2 g
  · exact n3 g
  · exact h.2.2.2.2.2.2.1 t u ht g1 (fun e => g2 (by rw [← e]; exact hA)) a ha g3
theorem CX_mk {S' : xS} {rts' : Nat → Option Nat} {X' : Nat → List nd} (h : CX S x B R T nb g rts X G) (A : Nat → Prop)
    (hk : ∀ b, FA x B R X G A b → b ≠ R → S'.1 b = S.1 b) (hR : S'.1 R = some (rarr rts'))
    (hsame : ∀ v, v < 16 → ¬ A v → rts' v = rts v ∧ X' v = X v)
    (hnew : ∀ v, v < 16 → A v → (∃ h, tr S'.1 h (rts' v) (X' v)) ∧ nrm none (X' v) ∧ (ads (X' v)).Nodup ∧ ∀ a ∈ ads (X' v), ¬ FA x B R X G A a)
    (hdis : ∀ v w, v < 16 → w < 16 → A v → A w → v ≠ w → ∀ a ∈ ads (X' v), a ∉ ads (X' w))
    (hst : St S' T (CF x B R X' G)) : CX S' x B R T nb g rts' X' G := by
  obtain ⟨h1, h2, h3, h4, h5, h6, h7, h8, h9⟩ := id h
  have xR : x ≠ R := fun e => by rw [e, h3] at h1; simp [pobj, rarr] at h1
  have BR : B ≠ R := fun e => by rw [e, h3] at h2; simp [barr, rarr] at h2
  refine ⟨(hk x (.inr (.inl rfl)) xR).trans h1, (hk B (.inr (.inr (.inl rfl))) BR).trans h2, hR, ?_, ?_, ?_, ?_, hst, h9⟩
  · intro t ht
    by_cases c : A t
    · exact (hnew t ht c).1
    · obtain ⟨e1, e2⟩ := hsame t ht c
      rw [e1, e2]
      obtain ⟨hh, T'⟩ := h4 t ht
      exact ⟨hh, tr_kept T' fun a ha => hk a (.inr (.inr (.inr (.inr ⟨t, ht, c, ha⟩)))) (h.node ht ha).2.2.1⟩
  · intro t ht
    by_cases c : A t
    · exact (hnew t ht c).2.1
    · rw [(hsame t ht c).2]; exact h5 t ht
  · intro t ht
    by_cases c : A t
    · exact ⟨(hnew t ht c).2.2.1, fun a ha g => (hnew t ht c).2.2.2 a ha (.inl g)⟩
    · rw [(hsame t ht c).2]; exact h6 t ht
  · intro t u ht hu htu a ha ga
    by_cases c : A t
    · by_cases c' : A u
      · exact hdis t u ht hu c c' htu a ha ga
      · rw [(hsame u hu c').2] at ga
        exact (hnew t ht c).2.2.2 a ha (.inr (.inr (.inr (.inr ⟨u, hu, c', ga⟩))))
    · rw [(hsame t ht c).2] at ha
      by_cases c' : A u
      · exact (hnew u hu c').2.2.2 a ga (.inr (.inr (.inr (.inr ⟨t, ht, c, ha⟩))))
      · rw [(hsame u hu c').2] at ga
        exact h7 t u ht hu htu a ha ga
end CXs
/-- the class's state: texts C, bytes bs -/
def CI (S : xS) (x : Nat) (C : Nat → List chr) (nb : Nat) (bs : Nat → Int32) (G : Nat → Prop) : Prop :=
  ∃ (B R T : Nat) (g : Nat → Int32) (rts : Nat → Option Nat) (X : Nat → List nd), CX S x B R T nb g rts X G ∧ (fun t => chs (X t)) = C ∧ (∀ i, i < nb → g i &&& 255 = bs i) ∧ WF C nb
def oput (C : Nat → List chr) (nb : Nat) (t a f n tag : Int32) (r : Int32 ⊕ Nat) (D : Nat → List chr) : Prop :=
  (¬ (pl C t a ∧ 0 ≤ f.toInt ∧ 1 ≤ n.toInt ∧ f.toInt + n.toInt ≤ (nb : Int)) ∧ r = .inr 2 ∧ D = C) ∨
  ∃ j k q l, j < 16 ∧ t = nI j ∧ a = nI k ∧ f = nI q ∧ n = nI l ∧ k ≤ (C j).length ∧ 1 ≤ l ∧ q + l ≤ nb ∧
    ((¬ (sm (fun t => (C t).length) 16 + l ≤ 4096 ∧ sm (fun t => np none (va_up C j ((C j).take k ++ (run q l tag ++ (C j).drop k)) t)) 16 ≤ 1024) ∧ r = .inr 1 ∧ D = C) ∨
      (sm (fun t => (C t).length) 16 + l ≤ 4096 ∧ sm (fun t => np none (va_up C j ((C j).take k ++ (run q l tag ++ (C j).drop k)) t)) 16 ≤ 1024 ∧ D = va_up C j ((C j).take k ++ (run q l tag ++ (C j).drop k)) ∧ r = .inl (nI (D j).length)))
theorem run_mem {s z : Nat} {t : Int32} {c : chr} (h : c ∈ run s z t) : ∃ i, i < z ∧ c = (s + i, t) := by
  obtain ⟨i, hi, e⟩ := List.mem_map.mp h
  exact ⟨i, List.mem_range.mp hi, e.symm⟩
theorem sm_np1 (C : Nat → List chr) {j : Nat} (hj : j < 16) (L : List chr) : sm (fun t => np none (va_up C j L t)) 16 + np none (C j) = sm (fun t => np none (C t)) 16 + np none L := by
  have := sm_up (f := fun t => np none (va_up C j L t)) (g := fun t => np none (C t)) (j := j) (n := 16) (fun t _ ht => by rw [va_up_ne _ _ ht]) hj
  rw [va_up_self] at this
  exact this
theorem sm_len1 (C : Nat → List chr) {j : Nat} (hj : j < 16) (L : List chr) : sm (fun t => (va_up C j L t).length) 16 + (C j).length = sm (fun t => (C t).length) 16 + L.length := by
  have := sm_up (f := fun t => (va_up C j L t).length) (g := fun t => (C t).length) (j := j) (n := 16) (fun t _ ht => by rw [va_up_ne _ _ ht]) hj
  rw [va_up_self] at this
  exact this
theorem WF_up1 {C : Nat → List chr} {nb j : Nat} {L : List chr} (w : WF C nb) (h1 : sm (fun t => (va_up C j L t).length) 16 ≤ 4096) (h2 : sm (fun t => np none (va_up C j L t)) 16 ≤ 1024) (h3 : ∀ c ∈ L, c.1 < nb) : WF (va_up C j L) nb := by
  refine ⟨h1, h2, fun t ht c hc => ?_, w.2.2.2⟩
  by_cases e : t = j
  · subst e; rw [va_up_self] at hc; exact h3 c hc
  · rw [va_up_ne _ _ e] at hc; exact w.2.2.1 t ht c hc
theorem c_put {S : xS} {x nb d n m : Nat} {C : Nat → List chr} {bs : Nat → Int32} {G : Nat → Prop} (h : CI S x C nb bs G) (hd : 120 < d) (hr : rm S (n + 100) (m + 800)) (t a f q tag : Int32) :
    ∃ r S' D, f_P_put d (some x) t a f q tag S = some (r, S') ∧ oput C nb t a f q tag r D ∧ CI S' x D nb bs G ∧ (∀ b, G b → S'.1 b = S.1 b) ∧ rm S' n m := by
  obtain ⟨d, rfl⟩ : ∃ e, d = e + 1 := ⟨d - 1, by omega⟩
  obtain ⟨B, R, T, g, rts, X, h, hC, hg, w⟩ := h
  subst hC
  have h1 := h.1
  have h3 := h.2.2.1
  have hrs : rm S (n + 1) (m + 6) := hr.less (by omega) (by omega)
  have hskip : CI (xskip S 6) x (fun t => chs (X t)) nb bs G := ⟨B, R, T, g, rts, X, h.skip 6, rfl, hg, w⟩
  show ∃ r S' D, e_P_put d (some x) t a f q tag S = some (r, S') ∧ _
  rcases c_edge h w (d := d) (by omega) hrs t a with ⟨np', e⟩ | ⟨j, k, hj, rfl, rfl, hk, hpl, e⟩
  · refine ⟨.inr 2, xskip S 6, _, ?_, .inl ⟨fun g => np' g.1, rfl, rfl⟩, hskip, fun _ _ => rfl, hrs.skip⟩
    simp only [e_P_put, gPo h1, e, Option.bind_some, xtry]
  obtain ⟨w1, w2, w3, w4⟩ := id w
  dsimp only at w1 w2 w3
  have hbad : ¬ (0 ≤ f.toInt ∧ 1 ≤ q.toInt ∧ f.toInt + q.toInt ≤ (nb : Int)) → e_P_put d (some x) (nI j) (nI k) f q tag S = some (.inr 2, xskip S 6) := by
    intro hb
    simp only [e_P_put, gPo h1, e, Option.bind_some, xtry, b_P_put_27]
    by_cases c1 : q < 1
    · rw [if_pos c1]; exact thr (by omega) hrs
    rw [if_neg c1]
    by_cases c2 : f < 0
    · rw [if_pos c2]; exact thr (by omega) hrs
    rw [if_neg c2]
    simp only [gP1 h1, Option.bind_some]
    have c1' : ¬ q.toInt < 1 := fun g => c1 (by rw [Int32.lt_iff_toInt_lt]; exact g)
    have c2' : ¬ f.toInt < 0 := fun g => c2 (by rw [Int32.lt_iff_toInt_lt]; exact g)
    have c3 : ¬ f ≤ nI nb - q := by
      obtain ⟨q', hq', rfl⟩ := nI_of (x := q) (by rw [Int32.lt_iff_toInt_lt]; show ¬ q.toInt < 0; omega)
      rw [Int32.le_iff_toInt_le, pk_sub31 (by omega) hq']
      rw [nI_toInt hq'] at hb c1'
      omega
    rw [if_neg c3]; exact thr (by omega) hrs
  by_cases hb : 0 ≤ f.toInt ∧ 1 ≤ q.toInt ∧ f.toInt + q.toInt ≤ (nb : Int)
  rotate_left 1
  · exact ⟨.inr 2, xskip S 6, _, hbad hb, .inl ⟨fun g => hb g.2, rfl, rfl⟩, hskip, fun _ _ => rfl, hrs.skip⟩
  obtain ⟨hb1, hb2, hb3⟩ := hb
  obtain ⟨qf, hqf, rfl⟩ := nI_of (x := f) (by rw [Int32.lt_iff_toInt_lt]; show ¬ f.toInt < 0; omega)
  obtain ⟨ql, hql, rfl⟩ := nI_of (x := q) (by rw [Int32.lt_iff_toInt_lt]; show ¬ q.toInt < 0; omega)
  rw [nI_toInt hqf, nI_toInt hql] at hb3
  rw [nI_toInt hql] at hb2
  obtain ⟨Rw, r1, r2, r3⟩ := CX_row h w hj
  have q1 : ¬ nI ql < 1 := nI_nlt (b := 1) (by omega) hql
  have q2 : ¬ nI qf < 0 := nI_pos hqf
  have q3 : nI qf ≤ nI nb - nI ql := by rw [Int32.le_iff_toInt_le, pk_sub31 (by omega) hql, nI_toInt hqf]; omega
  have hlenj : k ≤ (chs (X j)).length := by rw [chs_len]; exact hk
  have hnp1 := sm_np1 (fun t => chs (X t)) hj ((chs (X j)).take k ++ (run qf ql tag ++ (chs (X j)).drop k))
  have hln1 := sm_len1 (fun t => chs (X t)) hj ((chs (X j)).take k ++ (run qf ql tag ++ (chs (X j)).drop k))
  have npX := row_np Rw
  have npnew := np_le ((chs (X j)).take k ++ (run qf ql tag ++ (chs (X j)).drop k)) none
  have hLn : ((chs (X j)).take k ++ (run qf ql tag ++ (chs (X j)).drop k)).length = tot (X j) + ql := by
    simp only [List.length_append, List.length_take, List.length_drop, run_len, chs_len]; omega
  have hLj := chs_len (X j)
  rw [hLn] at npnew hln1
  have hroom := c_room h w (d := d) (by omega) hrs (k := ql) (by omega) (p := nI (np none ((chs (X j)).take k ++ (run qf ql tag ++ (chs (X j)).drop k))) - nI (X j).length) (by rw [pk_sub31 (by omega) (by omega)]; omega)
  simp only [e_P_put, gPo h1, e, Option.bind_some, xtry, if_neg q1, if_neg q2, gP1 h1, if_pos q3, c_rootOf h1 h3 (d := d) (by omega) hj, y_put Rw r3 (d := d) (a := k) (f := qf) (n := ql) (t := tag) (by omega) hk (by omega) (by omega), row_pieces Rw (d := d) (by omega), hroom]
  by_cases c : sm (fun t => (chs (X t)).length) 16 + ql ≤ 4096 ∧ sm (fun t => np none (va_up (fun t => chs (X t)) j ((chs (X j)).take k ++ (run qf ql tag ++ (chs (X j)).drop k)) t)) 16 ≤ 1024
  rotate_left 1
  · rw [if_neg (by rw [pk_sub31 (by omega) (by omega)]; omega)]
    exact ⟨.inr 1, xskip S 6, _, rfl, .inr ⟨j, k, qf, ql, hj, rfl, rfl, rfl, rfl, hlenj, by omega, by omega, .inl ⟨c, rfl, rfl⟩⟩, hskip, fun _ _ => rfl, hrs.skip⟩
  rw [if_pos (by rw [pk_sub31 (by omega) (by omega)]; omega)]
  obtain ⟨w', hw'⟩ := h.2.2.2.2.2.2.2.1.T
  obtain ⟨h', tj⟩ := h.2.2.2.1 j hj
  have nj := h.2.2.2.2.1 j hj
  obtain ⟨Nj, _⟩ := h.2.2.2.2.2.1 j hj
  have s0 := h.fst (fun t => t = j) (L := ads (X j)) (fun a ha => ⟨j, hj, rfl, ha⟩)
  have f0 : ∀ a ∈ ads (X j), ¬ FA x B R X G (fun t => t = j) a := fun a ha => h.fno (fun t => t = j) hj rfl ha
  obtain ⟨S1, K, l', r', hy, hz, ys, zs, f1, k1, ty, tz, ey, ez, ny, nz, Nyz, nK, hF1, s1, fr1, rm1, len1⟩ := t_part (d := d) (f := k) (n := n + 50) (m := m + 400) tj Nj nj s0 f0 (by omega) (by omega) (by omega) r3 (by omega) (hr.less (by omega) (by omega))
  have x1 := (fr1 x (.inr (.inl rfl))).trans h1
  obtain ⟨w1', hw1'⟩ := s1.T
  obtain ⟨a2, S2, f2, ha2, s2, na2, nT2, fr2, rm2⟩ := t_take (d := d) (s := qf) (z := ql) (t := tag) (n := n) (m := m) s1 (rm1.less (by omega) (by omega)) (by omega)
  have x2 := (fr2 x (.inl (.inr (.inl rfl)))).trans x1
  have k2 := (fr2 K (.inr (by simp))).trans k1
  obtain ⟨w2', hw2'⟩ := s2.T
  have mY : ∀ e ∈ ads ys, e ∈ ads (ys ++ zs) := fun e he => by rw [ads_app]; exact List.mem_append_left _ he
  have mZ : ∀ e ∈ ads zs, e ∈ ads (ys ++ zs) := fun e he => by rw [ads_app]; exact List.mem_append_right _ he
  have ty2 : tr S2.1 hy l' ys := tr_kept ty fun b hb => fr2 b (.inr (List.mem_cons_of_mem _ (mY b hb)))
  have tz2 : tr S2.1 hz r' zs := tr_kept tz fun b hb => fr2 b (.inr (List.mem_cons_of_mem _ (mZ b hb)))
  have nay : a2 ∉ ads (ys ++ zs) := fun g => na2 (.inr (List.mem_cons_of_mem _ g))
  have naK : a2 ≠ K := fun g => na2 (.inr (by simp [g]))
  have memE : ∀ e, e ∈ ads (ys ++ ([(a2, qf, ql, tag)] ++ zs)) ↔ e ∈ ads (ys ++ zs) ∨ e = a2 := fun e => by
    simp only [ads_app, ads_c4, ads_nil, List.mem_append, List.mem_cons, List.not_mem_nil, or_false]
    constructor
    · rintro (g | g | g)
      · exact .inl (.inl g)
      · exact .inr g
      · exact .inl (.inr g)
    · rintro ((g | g) | g)
      · exact .inl g
      · exact .inr (.inr g)
      · exact .inr (.inl g)
  obtain ⟨Ny, Nz, Nd⟩ := nodup_un Nyz
  have cbA : ∀ c ∈ (chs (X j)).take k ++ (run qf ql tag ++ (chs (X j)).drop k), c.1 < nb := fun c hc => by
    rw [List.mem_append, List.mem_append] at hc
    rcases hc with g | g | g
    · exact w3 j hj c (List.mem_of_mem_take g)
    · obtain ⟨i, hi, rfl⟩ := run_mem g
      show qf + i < nb; omega
    · exact w3 j hj c (List.mem_of_mem_drop g)
  obtain ⟨r3', S3, r4, S4, z4, h4, f3, fr3, hw3, f4, t4, n4, e4, N4, K4, s4, fr4, m4, l4⟩ := t_meet2 (d := d) (F := un (FA x B R X G (fun t => t = j)) [K]) ty2 (tr_one ha2) tz2 (by
      rw [ads_app, List.nodup_append, ads_app, List.nodup_append]
      refine ⟨Ny, ⟨by simp [ads], Nz, fun e he g hg h => ?_⟩, fun e he g hg h => ?_⟩
      · simp [ads] at he; subst he h
        exact nay (mZ _ hg)
      · subst h
        rcases List.mem_append.mp hg with g' | g'
        · simp [ads] at g'; subst g'
          exact nay (mY _ he)
        · exact Nd e he g') ny ⟨by show 0 < ql; omega, rfl, trivial⟩ nz (s2.less fun b hb => by
      rcases hb with (g | g) | g
      · exact .inl (.inl g)
      · exact .inl (.inr (by simp at g; simp [g]))
      · rcases (memE b).mp g with g | g
        · exact .inl (.inr (List.mem_cons_of_mem _ g))
        · exact .inr (by simp [g])) (fun b hb g => by
      rcases (memE b).mp hb with e | e
      · rcases g with g | g
        · exact (hF1 b e).1 g
        · simp at g; exact (hF1 b e).2 g
      · subst e
        rcases g with g | g
        · exact na2 (.inl g)
        · simp at g; exact naK g) (by simp only [List.length_cons, List.length_nil]; omega) (fun c hc => by
      rw [chs_app, chs_app, ey, ez] at hc
      have : c.1 < nb := cbA c (by simpa [chs] using hc)
      omega) (by omega)
  have x3 := (fr3 x (.inl (.inr (.inl rfl)))).trans x2
  have k3 := (fr3 K (.inr (by simp))).trans k2
  obtain ⟨w3', hw3'⟩ := hw3
  have x4 := (fr4 x (.inl (.inr (.inl rfl)))).trans x2
  have fr14 : ∀ b, FA x B R X G (fun t => t = j) b → S4.1 b = S.1 b := fun b hb => by
    rw [fr4 b (.inl hb), fr2 b (.inl hb), fr1 b hb]
  have R4 := (fr14 R (.inr (.inr (.inr (.inl rfl))))).trans h3
  have hfin := c_become (d := d) x4 R4 hj t4 (by omega)
  have tot4 : tot z4 = ((chs (X j)).take k ++ (run qf ql tag ++ (chs (X j)).drop k)).length := by
    rw [← chs_len, e4, ey, ez]; simp [chs]
  have ec4 : chs z4 = (chs (X j)).take k ++ (run qf ql tag ++ (chs (X j)).drop k) := by
    rw [e4, ey, ez]; simp [chs]
  refine ⟨.inl (nI (tot z4)), xset S4 R (rarr (va_up rts j r4)), va_up (fun t => chs (X t)) j ((chs (X j)).take k ++ (run qf ql tag ++ (chs (X j)).drop k)), ?_, ?_, ?_, ?_, ?_⟩
  · simp only [gP3 h1, hw', f1, Option.bind_some, gP3 x1, hw1', f2, gP3 x2, gK0 k2, hw2', f3, gK1 k3, hw3', f4, gPo x4, hfin]
  · refine .inr ⟨j, k, qf, ql, hj, rfl, rfl, rfl, rfl, hlenj, by omega, by omega, .inr ⟨c.1, c.2, rfl, ?_⟩⟩
    rw [va_up_self, tot4]
  · refine ⟨B, R, T, g, va_up rts j r4, va_up X j z4, ?_, ?_, hg, WF_up1 w (by
      have e := hln1
      omega) c.2 cbA⟩
    · refine CX_mk h (fun t => t = j) (fun b hb hbR => by rw [xset_ne _ hbR]; exact fr14 b hb) (xset_at _ _ _) (fun v _ hv => ⟨va_up_ne _ _ hv, va_up_ne _ _ hv⟩) ?_ (fun v u _ _ e1 e2 e3 => absurd (e1.trans e2.symm) e3) ?_
      · rintro v _ rfl
        rw [va_up_self, va_up_self]
        refine ⟨⟨h4, tr_kept t4 fun b hb => xset_ne _ (fun e => s4.1 ?_)⟩, n4, N4, fun b hb => ?_⟩
        · exfalso
          subst e
          obtain ⟨y, hy, e⟩ := List.mem_map.mp (show b ∈ z4.map (fun x => x.1) from hb)
          obtain ⟨_, _, _, _, _, e2⟩ := tr_cell t4 y hy
          rw [e, R4] at e2
          simp [pcell, rarr] at e2
        · rcases (memE b).mp (K4 b hb) with e | e
          · exact (hF1 b e).1
          · rw [e]; exact fun g => na2 (.inl g)
      · refine St.kept (S := S4) (s4.less fun b hb => ?_) rfl fun b hb => xset_ne _ (fun e => hb (.inr (.inr (.inr (.inl e)))))
        rcases hb with e | e | e | e | ⟨u, hu, e⟩
        · exact .inl (.inl (.inl e))
        · exact .inl (.inl (.inr (.inl e)))
        · exact .inl (.inl (.inr (.inr (.inl e))))
        · exact .inl (.inl (.inr (.inr (.inr (.inl e)))))
        · by_cases c' : u = j
          · subst c'; rw [va_up_self] at e; exact .inr e
          · rw [va_up_ne _ _ c'] at e
            exact .inl (.inl (.inr (.inr (.inr (.inr ⟨u, hu, c', e⟩)))))
    · funext u
      by_cases c' : u = j
      · subst c'; rw [va_up_self, va_up_self, ec4]
      · rw [va_up_ne _ _ c', va_up_ne _ _ c']
  · intro b hb
    rw [xset_ne _ (fun e => h.2.2.2.2.2.2.2.2.2.2 (by rw [← e]; exact hb)), fr14 b (.inl hb)]
  · exact rm2.same (by rw [xset_2, m4])
