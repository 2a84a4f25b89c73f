/-! CUT, PASTE -/
section CXf
variable {S : xS} {x B R T nb : Nat} {g : Nat → Int32} {rts : Nat → Option Nat} {X : Nat → List nd} {G : Nat → Prop}
theorem CX_fin {S4 : xS} {rts' o : Nat → Option Nat} {X' : Nat → List nd} {L : List Nat} (h : CX S x B R T nb g rts X G) (A : Nat → Prop) (fr : ∀ b, FA x B R X G A b → b ≠ R → S4.1 b = S.1 b) (hR4 : S4.1 R = some (rarr o)) (hst : St S4 T (un (FA x B R X G A) L)) (hsame : ∀ v, v < 16 → ¬ A v → rts' v = rts v ∧ X' v = X v)
    (hnew : ∀ v, v < 16 → A v → (∃ h, tr S4.1 h (rts' v) (X' v)) ∧ nrm none (X' v) ∧ (ads (X' v)).Nodup ∧ ∀ a ∈ ads (X' v), ¬ FA x B R X G A a ∧ a ∈ L)
    (hdis : ∀ v w, v < 16 → w < 16 → A v → A w → v ≠ w → ∀ a ∈ ads (X' v), a ∉ ads (X' w)) : CX (xset S4 R (rarr rts')) x B R T nb g rts' X' G ∧ ∀ b, G b → (xset S4 R (rarr rts')).1 b = S.1 b := by
  refine ⟨CX_mk h A (fun b hb hbR => by rw [xset_ne _ hbR]; exact fr b hb hbR) (xset_at _ _ _) hsame ?_ hdis ?_, fun b hb => ?_⟩
  · intro v hv hA
    obtain ⟨⟨hh, t4⟩, n4, N4, F4⟩ := hnew v hv hA
    refine ⟨⟨hh, tr_kept t4 fun b hb => xset_ne _ (fun e => ?_)⟩, n4, N4, fun a ha => (F4 a ha).1⟩
    subst e
    exact (F4 b hb).1 (.inr (.inr (.inr (.inl rfl))))
  · refine St.kept (S := S4) (hst.less fun b hb => ?_) rfl fun b hb => xset_ne _ (fun e => hb (.inr (.inr (.inr (.inl e)))))
    rcases hb with e | e | e | e | ⟨u, hu, e⟩
    · exact .inl (.inl e)
    · exact .inl (.inr (.inl e))
    · exact .inl (.inr (.inr (.inl e)))
    · exact .inl (.inr (.inr (.inr (.inl e))))
    · by_cases c' : A u
      · exact .inr ((hnew u hu c').2.2.2 b e).2
      · rw [(hsame u hu c').2] at e
        exact .inl (.inr (.inr (.inr (.inr ⟨u, hu, c', e⟩))))
  · have hbR : b ≠ R := fun e => h.2.2.2.2.2.2.2.2.2.2 (by rw [← e]; exact hb)
    rw [xset_ne _ hbR, fr b (.inl hb) hbR]
theorem CX.nil (h : CX S x B R T nb g rts X G) {i : Nat} (hi : i < 16) : (rts i = none ↔ chs (X i) = []) := by
  obtain ⟨hh, T'⟩ := h.2.2.2.1 i hi
  have n := h.2.2.2.2.1 i hi
  rcases tr_top T' with ⟨e1, _, e2⟩ | ⟨a, _, _, _, _, _, e1, e2, _⟩
  · rw [e1, e2]; simp [chs]
  · rw [e1]
    constructor
    · intro e; cases e
    · intro e
      rw [chs_nil n e] at e2
      cases e2
theorem c_free {d n m : Nat} (h : CX S x B R T nb g rts X G) (hd : 9 < d) (hr : rm S (n + 1) (m + 6)) {i j : Nat} (hi : i < 16) (hj : j < 16) : ((i = j ∨ chs (X i) ≠ []) → f_P_demandFree d (some x) (nI i) (nI j) S = some (.inr 0, xskip S 6)) ∧ (i ≠ j → chs (X i) = [] → f_P_demandFree d (some x) (nI i) (nI j) S = some (.inl (), S)) := by
  obtain ⟨d, rfl⟩ : ∃ e, d = e + 1 := ⟨d - 1, by omega⟩
  have hval : f_P_demandFree (d + 1) (some x) (nI i) (nI j) S = if i = j then some (.inr 0, xskip S 6) else xcase (rts i) (some (.inl (), S)) (fun _ => some (.inr 0, xskip S 6)) := by
    show e_P_demandFree d (some x) (nI i) (nI j) S = _
    simp only [e_P_demandFree, b_P_demandFree_13, gPo h.1, c_rootOf h.1 h.2.2.1 (d := d) (by omega) hi, Option.bind_some]
    rw [ifeq (by omega) (by omega), thr (by omega) hr]
  rw [hval]
  constructor
  · intro c
    by_cases e : i = j
    · rw [if_pos e]
    · rw [if_neg e]
      rcases c with c | c
      · exact absurd c e
      · cases hz : rts i with
        | none => exact absurd ((h.nil hi).mp hz) c
        | some a => rfl
  · intro c1 c2
    rw [if_neg c1, (h.nil hi).mpr c2]
    rfl
end CXf
def tx (t : Int32) : Prop := 0 ≤ t.toInt ∧ t.toInt < 16
theorem sm_np2 (C : Nat → List chr) {i j : Nat} (hi : i < 16) (hj : j < 16) (hij : i ≠ j) (L M : List chr) : sm (fun t => np none (va_up (va_up C i L) j M t)) 16 + np none (C i) + np none (C j) = sm (fun t => np none (C t)) 16 + np none L + np none M := by
  have := sm_two (f := fun t => np none (va_up (va_up C i L) j M t)) (g := fun t => np none (C t)) (i := i) (j := j) (n := 16) (fun t _ h1 h2 => by rw [va_up_ne _ _ h2, va_up_ne _ _ h1]) hi hj hij
  rw [va_up_self, va_up_ne _ _ hij, va_up_self] at this
  exact this
theorem sm_len2 (C : Nat → List chr) {i j : Nat} (hi : i < 16) (hj : j < 16) (hij : i ≠ j) (L M : List chr) : sm (fun t => (va_up (va_up C i L) j M t).length) 16 + (C i).length + (C j).length = sm (fun t => (C t).length) 16 + L.length + M.length := by
  have := sm_two (f := fun t => (va_up (va_up C i L) j M t).length) (g := fun t => (C t).length) (i := i) (j := j) (n := 16) (fun t _ h1 h2 => by rw [va_up_ne _ _ h2, va_up_ne _ _ h1]) hi hj hij
  rw [va_up_self, va_up_ne _ _ hij, va_up_self] at this
  exact this
theorem WF_up2 {C : Nat → List chr} {nb i j : Nat} {L M : List chr} (w : WF C nb) (h1 : sm (fun t => (va_up (va_up C i L) j M t).length) 16 ≤ 4096) (h2 : sm (fun t => np none (va_up (va_up C i L) j M t)) 16 ≤ 1024) (h3 : ∀ c ∈ L, c.1 < nb) (h4 : ∀ c ∈ M, c.1 < nb) : WF (va_up (va_up C i L) j M) nb := by
  refine ⟨h1, h2, fun t ht c hc => ?_, w.2.2.2⟩
  by_cases e : t = j
  · subst e; rw [va_up_self] at hc; exact h4 c hc
  · rw [va_up_ne _ _ e] at hc
    by_cases e' : t = i
    · subst e'; rw [va_up_self] at hc; exact h3 c hc
    · rw [va_up_ne _ _ e'] at hc; exact w.2.2.1 t ht c hc
theorem drop_drop' (C : List chr) (k l : Nat) : (C.drop k).drop l = C.drop (k + l) := by
  rw [List.drop_drop]
theorem take_drop' (C : List chr) (k l : Nat) : (C.drop k).take l = rng C k (k + l) := by
  unfold rng
  rw [List.drop_take]
  congr 1; omega
def ocut (C : Nat → List chr) (t a n into : Int32) (r : Int32 ⊕ Nat) (D : Nat → List chr) : Prop :=
  (¬ (rg C t a n ∧ tx into) ∧ r = .inr 2 ∧ D = C) ∨
  ∃ j k l i, j < 16 ∧ i < 16 ∧ t = nI j ∧ a = nI k ∧ n = nI l ∧ into = nI i ∧ k + l ≤ (C j).length ∧
    (((i = j ∨ C i ≠ []) ∧ r = .inr 0 ∧ D = C) ∨ (i ≠ j ∧ C i = [] ∧
    ((¬ sm (fun t => np none (va_up (va_up C i (rng (C j) k (k + l))) j ((C j).take k ++ (C j).drop (k + l)) t)) 16 ≤ 1024 ∧ r = .inr 1 ∧ D = C) ∨
      (sm (fun t => np none (va_up (va_up C i (rng (C j) k (k + l))) j ((C j).take k ++ (C j).drop (k + l)) t)) 16 ≤ 1024 ∧ D = va_up (va_up C i (rng (C j) k (k + l))) j ((C j).take k ++ (C j).drop (k + l)) ∧ r = .inl (nI (D j).length)))))
theorem c_cut {S : xS} {x nb d n m : Nat} {C : Nat → List chr} {bs : Nat → Int32} {G : Nat → Prop} (h : CI S x C nb bs G) (hd : 120 < d) (hr : rm S (n + 100) (m + 800)) (t a q into : Int32) :
    ∃ r S' D, f_P_cut d (some x) t a q into S = some (r, S') ∧ ocut C t a q into r D ∧ CI S' x D nb bs G ∧ (∀ b, G b → S'.1 b = S.1 b) ∧ rm S' n m := by
  obtain ⟨d, rfl⟩ : ∃ e, d = e + 1 := ⟨d - 1, by omega⟩
  obtain ⟨B, R, T, g, rts, X, h, hC, hg, w⟩ := h
  subst hC
  have h1 := h.1
  have h3 := h.2.2.1
  have hrs : rm S (n + 1) (m + 6) := hr.less (by omega) (by omega)
  have hskip : CI (xskip S 6) x (fun t => chs (X t)) nb bs G := ⟨B, R, T, g, rts, X, h.skip 6, rfl, hg, w⟩
  show ∃ r S' D, e_P_cut d (some x) t a q into S = some (r, S') ∧ _
  rcases c_range h w (d := d) (by omega) hrs t a q with ⟨np', e⟩ | ⟨j, k, l, hj, rfl, rfl, rfl, hk, hpl, e⟩
  · refine ⟨.inr 2, xskip S 6, _, ?_, .inl ⟨fun g => np' g.1, rfl, rfl⟩, hskip, fun _ _ => rfl, hrs.skip⟩
    simp only [e_P_cut, gPo h1, e, Option.bind_some, xtry]
  rcases tx_cases into with ⟨cb0, nc⟩ | ⟨i, hi, rfl, _, _⟩
  · refine ⟨.inr 2, xskip S 6, _, ?_, .inl ⟨fun g => nc g.2, rfl, rfl⟩, hskip, fun _ _ => rfl, hrs.skip⟩
    simp only [e_P_cut, gPo h1, e, Option.bind_some, xtry, (c_text h1 h3 (d := d) (by omega) hrs).1 cb0]
  have e2 := (c_text h1 h3 (d := d) (t := nI i) (by omega) hrs).2 i hi rfl
  have hkl : k + l ≤ (chs (X j)).length := by rw [chs_len]; exact hk
  by_cases cf : i = j ∨ chs (X i) ≠ []
  · refine ⟨.inr 0, xskip S 6, _, ?_, .inr ⟨j, k, l, i, hj, hi, rfl, rfl, rfl, rfl, hkl, .inl ⟨cf, rfl, rfl⟩⟩, hskip, fun _ _ => rfl, hrs.skip⟩
    simp only [e_P_cut, gPo h1, e, Option.bind_some, xtry, e2, (c_free h (d := d) (by omega) hrs hi hj).1 cf]
  have hij : i ≠ j := fun g => cf (.inl g)
  have hXi : chs (X i) = [] := Classical.byContradiction fun g => cf (.inr g)
  have e3 := (c_free h (d := d) (by omega) hrs hi hj).2 hij hXi
  obtain ⟨w1, w2, w3, w4⟩ := id w
  dsimp only at w1 w2 w3
  obtain ⟨Rw, r1, r2, r3⟩ := CX_row h w hj
  have hnp2 := sm_np2 (fun t => chs (X t)) hi hj hij (rng (chs (X j)) k (k + l)) ((chs (X j)).take k ++ (chs (X j)).drop (k + l))
  have hln2 := sm_len2 (fun t => chs (X t)) hi hj hij (rng (chs (X j)) k (k + l)) ((chs (X j)).take k ++ (chs (X j)).drop (k + l))
  have npX := row_np Rw
  have npA := np_le ((chs (X j)).take k ++ (chs (X j)).drop (k + l)) none
  have npB := np_le (rng (chs (X j)) k (k + l)) none
  have hLA : ((chs (X j)).take k ++ (chs (X j)).drop (k + l)).length = tot (X j) - l := by
    simp only [List.length_append, List.length_take, List.length_drop, chs_len]; omega
  have hLB : (rng (chs (X j)) k (k + l)).length = l := by
    rw [rng_len hkl]; omega
  have hLj := chs_len (X j)
  rw [hLA] at npA hln2
  rw [hLB] at npB hln2
  rw [hXi] at hnp2 hln2
  simp only [np, List.length_nil] at hnp2 hln2
  have tI : (nI (np none ((chs (X j)).take k ++ (chs (X j)).drop (k + l)) + np none (rng (chs (X j)) k (k + l))) - nI (X j).length).toInt = _ := pk_sub31 (by omega) (by omega)
  have hroom := c_room h w (d := d) (by omega) hrs (k := 0) (by omega) (p := nI (np none ((chs (X j)).take k ++ (chs (X j)).drop (k + l)) + np none (rng (chs (X j)) k (k + l))) - nI (X j).length) (by rw [tI]; omega)
  have i0 : (0 : Int32) = nI 0 := rfl
  simp only [e_P_cut, gPo h1, e, Option.bind_some, xtry, e2, e3, c_rootOf h1 h3 (d := d) (by omega) hj, y_cut Rw r3 (d := d) (a := k) (n := l) (by omega) hk, y_within Rw (d := d) (a := k) (n := l) (by omega) hk, row_pieces Rw (d := d) (by omega), nI_add]
  rw [show f_P_demandRoom d (some x) 0 = f_P_demandRoom d (some x) (nI 0) from rfl, hroom]
  by_cases c : sm (fun t => np none (va_up (va_up (fun t => chs (X t)) i (rng (chs (X j)) k (k + l))) j ((chs (X j)).take k ++ (chs (X j)).drop (k + l)) t)) 16 ≤ 1024
  rotate_left 1
  · rw [if_neg (by rw [tI]; omega)]
    exact ⟨.inr 1, xskip S 6, _, rfl, .inr ⟨j, k, l, i, hj, hi, rfl, rfl, rfl, rfl, hkl, .inr ⟨hij, hXi, .inl ⟨c, rfl, rfl⟩⟩⟩, hskip, fun _ _ => rfl, hrs.skip⟩
  rw [if_pos (by rw [tI]; omega)]
  obtain ⟨w', hw'⟩ := h.2.2.2.2.2.2.2.1.T
  obtain ⟨h', tj⟩ := h.2.2.2.1 j hj
  have nj := h.2.2.2.2.1 j hj
  obtain ⟨Nj, _⟩ := h.2.2.2.2.2.1 j hj
  have s0 := h.fst (fun t => t = j ∨ t = i) (L := ads (X j)) (fun a ha => ⟨j, hj, .inl rfl, ha⟩)
  have f0 : ∀ a ∈ ads (X j), ¬ FA x B R X G (fun t => t = j ∨ t = i) a := fun a ha => h.fno (fun t => t = j ∨ t = i) hj (.inl rfl) ha
  obtain ⟨S1, K, l', r', hy, hz, ys, zs, f1, k1, ty, tz, ey, ez, ny, nz, Nyz, nK, hF1, s1, fr1, rm1, len1⟩ := t_part (d := d) (f := k) (n := n + 50) (m := m + 400) tj Nj nj s0 f0 (by omega) (by omega) (by omega) r3 (by omega) (hr.less (by omega) (by omega))
  have x1 := (fr1 x (.inr (.inl rfl))).trans h1
  obtain ⟨w1', hw1'⟩ := s1.T
  obtain ⟨Ny, Nz, Nd⟩ := nodup_un Nyz
  have mY : ∀ e ∈ ads ys, e ∈ ads (ys ++ zs) := fun e he => by rw [ads_app]; exact List.mem_append_left _ he
  have mZ : ∀ e ∈ ads zs, e ∈ ads (ys ++ zs) := fun e he => by rw [ads_app]; exact List.mem_append_right _ he
  have totz : tot zs = tot (X j) - k := by rw [← chs_len, ez, List.length_drop, chs_len]
  obtain ⟨S2, K2, l2, r2', hu, hv, us, vs, f2, k2, tu, tv, eu, ev, nu, nv, Nuv, nK2, hF2, s2, fr2, rm2, len2⟩ := t_part (d := d) (f := l) (n := n) (m := m) (F := un (FA x B R X G (fun t => t = j ∨ t = i)) (K :: ads ys)) tz Nz nz (s1.less fun b hb => by
      rcases hb with (g | g) | g
      · exact .inl g
      · rcases List.mem_cons.mp g with g | g
        · exact .inr (by simp [g])
        · exact .inr (List.mem_cons_of_mem _ (mY b g))
      · exact .inr (List.mem_cons_of_mem _ (mZ b g))) (fun a ha g => by
      rcases g with g | g
      · exact (hF1 a (mZ a ha)).1 g
      · rcases List.mem_cons.mp g with g | g
        · exact (hF1 a (mZ a ha)).2 g
        · exact Nd a g ha) (by omega) (by omega) (by omega) (fun c hc => r3 c (by rw [ez] at hc; exact List.mem_of_mem_drop hc)) (by omega) (rm1.less (by omega) (by omega))
  have x2 := (fr2 x (.inl (.inr (.inl rfl)))).trans x1
  have k12 := (fr2 K (.inr (by simp))).trans k1
  have fr12 : ∀ b, FA x B R X G (fun t => t = j ∨ t = i) b → S2.1 b = S.1 b := fun b hb => by rw [fr2 b (.inl hb), fr1 b hb]
  have R2 := (fr12 R (.inr (.inr (.inr (.inl rfl))))).trans h3
  have b3 := c_become (d := d) x2 R2 hi tu (by omega)
  have sx : ∀ b, b ≠ R → (xset S2 R (rarr (va_up rts i l2))).1 b = S2.1 b := fun b hb => xset_ne _ hb
  have R3 := xset_at S2 R (rarr (va_up rts i l2))
  have m3 : (xset S2 R (rarr (va_up rts i l2))).2 = S2.2 := rfl
  have s3 : St (xset S2 R (rarr (va_up rts i l2))) T (un (un (FA x B R X G (fun t => t = j ∨ t = i)) (K :: ads ys)) (K2 :: ads (us ++ vs))) := s2.kept rfl fun b hb => xset_ne _ (fun e => hb (.inl (.inl (.inr (.inr (.inr (.inl e)))))))
  generalize xset S2 R (rarr (va_up rts i l2)) = S3 at b3 sx R3 m3 s3
  have FAR : FA x B R X G (fun t => t = j ∨ t = i) R := .inr (.inr (.inr (.inl rfl)))
  have xR : x ≠ R := fun e => by rw [e, h3] at h1; simp [pobj, rarr] at h1
  have x3 := (sx x xR).trans x2
  have KR : K ≠ R := fun e => nK (by rw [e]; exact FAR)
  have K2R : K2 ≠ R := fun e => nK2 (.inl (by rw [e]; exact FAR))
  have k13 := (sx K KR).trans k12
  have k23 := (sx K2 K2R).trans k2
  have nRn : ∀ e ∈ ads (us ++ vs), e ≠ R := fun e he g => (hF2 e he).1 (.inl (by rw [g]; exact FAR))
  have nRy : ∀ e ∈ ads ys, e ≠ R := fun e he g => (hF1 e (mY e he)).1 (by rw [g]; exact FAR)
  have mU : ∀ e ∈ ads us, e ∈ ads (us ++ vs) := fun e he => by rw [ads_app]; exact List.mem_append_left _ he
  have mV : ∀ e ∈ ads vs, e ∈ ads (us ++ vs) := fun e he => by rw [ads_app]; exact List.mem_append_right _ he
  obtain ⟨Nu, Nv, Nuvd⟩ := nodup_un Nuv
  have ty3 : tr S3.1 hy l' ys := tr_kept ty fun b hb => by rw [sx b (nRy b hb), fr2 b (.inr (List.mem_cons_of_mem _ hb))]
  have tu3 : tr S3.1 hu l2 us := tr_kept tu fun b hb => sx b (nRn b (mU b hb))
  have tv3 : tr S3.1 hv r2' vs := tr_kept tv fun b hb => sx b (nRn b (mV b hb))
  obtain ⟨w3', hw3'⟩ := s3.T
  have Nyv : ∀ e ∈ ads ys, e ∉ ads vs := fun e he g => (hF2 e (mV e g)).1 (.inr (List.mem_cons_of_mem _ he))
  have Nyu : ∀ e ∈ ads ys, e ∉ ads us := fun e he g => (hF2 e (mU e g)).1 (.inr (List.mem_cons_of_mem _ he))
  have euC : chs us = rng (chs (X j)) k (k + l) := by rw [eu, ez, take_drop']
  have evC : chs vs = (chs (X j)).drop (k + l) := by rw [ev, ez, drop_drop']
  obtain ⟨r4, S4, z4, h4, f4, t4, n4, e4, N4, K4, s4, fr4, m4, l4⟩ := t_meet (d := d) (F := un (FA x B R X G (fun t => t = j ∨ t = i)) (ads us)) ty3 tv3 (by
      rw [ads_app, List.nodup_append]
      exact ⟨Ny, Nv, fun e he g hg h => Nyv e he (by rw [h]; exact hg)⟩) ny nv (s3.less fun b hb => by
      rcases hb with (g | g) | g
      · exact .inl (.inl g)
      · exact .inr (List.mem_cons_of_mem _ (mU b g))
      · rw [ads_app, List.mem_append] at g
        rcases g with g | g
        · exact .inl (.inr (List.mem_cons_of_mem _ g))
        · exact .inr (List.mem_cons_of_mem _ (mV b g))) (fun b hb g => by
      rw [ads_app, List.mem_append] at hb
      rcases hb with e | e
      · rcases g with g | g
        · exact (hF1 b (mY b e)).1 g
        · exact Nyu b e g
      · rcases g with g | g
        · exact (hF2 b (mV b e)).1 (.inl g)
        · exact Nuvd b g e) (by omega) (fun c hc => by
      rw [chs_app, List.mem_append, ey, evC] at hc
      rcases hc with g | g
      · exact r3 c (List.mem_of_mem_take g)
      · exact r3 c (List.mem_of_mem_drop g)) (by omega)
  have x4 := (fr4 x (.inl (.inr (.inl rfl)))).trans x3
  have R4 := (fr4 R (.inl FAR)).trans R3
  have hfin := c_become (d := d) x4 R4 hj t4 (by omega)
  have ec4 : chs z4 = (chs (X j)).take k ++ (chs (X j)).drop (k + l) := by rw [e4, ey, evC]
  have mz4 : ∀ e ∈ ads z4, e ∈ ads ys ∨ e ∈ ads vs := fun e he => by
    have := K4 e he
    rw [ads_app, List.mem_append] at this
    exact this
  have tu4 : tr S4.1 hu l2 us := tr_kept tu3 fun b hb => fr4 b (.inr hb)
  obtain ⟨hCX, hG⟩ := CX_fin (rts' := va_up (va_up rts i l2) j r4) (X' := va_up (va_up X i us) j z4) (L := ads us ++ ads z4) h (fun t => t = j ∨ t = i) (S4 := S4) (fun b hb hbR => by rw [fr4 b (.inl hb), sx b hbR, fr12 b hb]) R4 (s4.less fun b hb => by
      rcases hb with g | g
      · exact .inl (.inl g)
      · rcases List.mem_append.mp g with g | g
        · exact .inl (.inr g)
        · exact .inr g) (fun v _ hv => by
      have e1 : v ≠ j := fun g => hv (.inl g)
      have e2 : v ≠ i := fun g => hv (.inr g)
      exact ⟨by rw [va_up_ne _ _ e1, va_up_ne _ _ e2], by rw [va_up_ne _ _ e1, va_up_ne _ _ e2]⟩) (fun v _ hv => by
      by_cases e1 : v = j
      · subst e1
        rw [va_up_self, va_up_self]
        refine ⟨⟨h4, t4⟩, n4, N4, fun a ha => ⟨?_, List.mem_append_right _ ha⟩⟩
        rcases mz4 a ha with g | g
        · exact (hF1 a (mY a g)).1
        · exact fun e => (hF2 a (mV a g)).1 (.inl e)
      · have e2 : v = i := hv.resolve_left e1
        subst e2
        rw [va_up_ne _ _ e1, va_up_ne _ _ e1, va_up_self, va_up_self]
        exact ⟨⟨hu, tu4⟩, nu, Nu, fun a ha => ⟨fun e => (hF2 a (mU a ha)).1 (.inl e), List.mem_append_left _ ha⟩⟩) (fun v u _ _ hv hu hvu a ha ga => by
      have key : ∀ a, a ∈ ads z4 → a ∉ ads us := fun a ha g => by
        rcases mz4 a ha with g' | g'
        · exact Nyu a g' g
        · exact Nuvd a g g'
      by_cases e1 : v = j
      · have e2 : u ≠ j := fun e => hvu (e1.trans e.symm)
        have e3 : u = i := hu.resolve_left e2
        rw [e1, va_up_self] at ha
        rw [e3, va_up_ne _ _ hij, va_up_self] at ga
        exact key a ha ga
      · have e2 : v = i := hv.resolve_left e1
        have e3 : u = j := hu.resolve_right fun e => hvu (e2.trans e.symm)
        rw [e2, va_up_ne _ _ hij, va_up_self] at ha
        rw [e3, va_up_self] at ga
        exact key a ga ha)
  refine ⟨.inl (nI (tot z4)), xset S4 R (rarr (va_up (va_up rts i l2) j r4)), va_up (va_up (fun t => chs (X t)) i (rng (chs (X j)) k (k + l))) j ((chs (X j)).take k ++ (chs (X j)).drop (k + l)), ?_, ?_, ⟨B, R, T, g, _, _, hCX, ?_, hg, WF_up2 w (by omega) c (fun c hc => ?_) (fun c hc => ?_)⟩, hG, rm2.same (by rw [xset_2, m4, m3])⟩
  · simp only [gP3 h1, hw', f1, Option.bind_some, gP3 x1, gK1 k1, hw1', f2, gK0 k2, gPo x2, b3, gP3 x3, gK0 k13, gK1 k23, hw3', f4, gPo x4, hfin]
  · refine .inr ⟨j, k, l, i, hj, hi, rfl, rfl, rfl, rfl, hkl, .inr ⟨hij, hXi, .inr ⟨c, rfl, ?_⟩⟩⟩
    rw [va_up_self, ← ec4, chs_len]
  · funext u
    by_cases e1 : u = j
    · subst e1; rw [va_up_self, va_up_self, ec4]
    · rw [va_up_ne _ _ e1, va_up_ne _ _ e1]
      by_cases e2 : u = i
      · subst e2; rw [va_up_self, va_up_self, euC]
      · rw [va_up_ne _ _ e2, va_up_ne _ _ e2]
  · unfold rng at hc
    exact w3 j hj c (List.mem_of_mem_take (List.mem_of_mem_drop hc))
  · rcases List.mem_append.mp hc with g | g
    · exact w3 j hj c (List.mem_of_mem_take g)
    · exact w3 j hj c (List.mem_of_mem_drop g)
def opaste (C : Nat → List chr) (t a other : Int32) (r : Int32 ⊕ Nat) (D : Nat → List chr) : Prop :=
  (¬ (pl C t a ∧ tx other) ∧ r = .inr 2 ∧ D = C) ∨
  ∃ j k i, j < 16 ∧ i < 16 ∧ t = nI j ∧ a = nI k ∧ other = nI i ∧ k ≤ (C j).length ∧
    ((i = j ∧ r = .inr 0 ∧ D = C) ∨ (i ≠ j ∧
    ((¬ sm (fun t => np none (va_up (va_up C i []) j ((C j).take k ++ (C i ++ (C j).drop k)) t)) 16 ≤ 1024 ∧ r = .inr 1 ∧ D = C) ∨
      (sm (fun t => np none (va_up (va_up C i []) j ((C j).take k ++ (C i ++ (C j).drop k)) t)) 16 ≤ 1024 ∧ D = va_up (va_up C i []) j ((C j).take k ++ (C i ++ (C j).drop k)) ∧ r = .inl (nI (D j).length)))))
theorem c_paste {S : xS} {x nb d n m : Nat} {C : Nat → List chr} {bs : Nat → Int32} {G : Nat → Prop} (h : CI S x C nb bs G) (hd : 120 < d) (hr : rm S (n + 100) (m + 800)) (t a other : Int32) :
    ∃ r S' D, f_P_paste d (some x) t a other S = some (r, S') ∧ opaste C t a other r D ∧ CI S' x D nb bs G ∧ (∀ b, G b → S'.1 b = S.1 b) ∧ rm S' n m := by
  obtain ⟨d, rfl⟩ : ∃ e, d = e + 1 := ⟨d - 1, by omega⟩
  obtain ⟨B, R, T, g, rts, X, h, hC, hg, w⟩ := h
  subst hC
  have h1 := h.1
  have h3 := h.2.2.1
  have hrs : rm S (n + 1) (m + 6) := hr.less (by omega) (by omega)
  have hskip : CI (xskip S 6) x (fun t => chs (X t)) nb bs G := ⟨B, R, T, g, rts, X, h.skip 6, rfl, hg, w⟩
  show ∃ r S' D, e_P_paste d (some x) t a other S = some (r, S') ∧ _
  rcases c_edge h w (d := d) (by omega) hrs t a with ⟨np', e⟩ | ⟨j, k, hj, rfl, rfl, hk, hpl, e⟩
  · refine ⟨.inr 2, xskip S 6, _, ?_, .inl ⟨fun g => np' g.1, rfl, rfl⟩, hskip, fun _ _ => rfl, hrs.skip⟩
    simp only [e_P_paste, gPo h1, e, Option.bind_some, xtry]
  rcases tx_cases other with ⟨cb0, nc⟩ | ⟨i, hi, rfl, _, _⟩
  · refine ⟨.inr 2, xskip S 6, _, ?_, .inl ⟨fun g => nc g.2, rfl, rfl⟩, hskip, fun _ _ => rfl, hrs.skip⟩
    simp only [e_P_paste, gPo h1, e, Option.bind_some, xtry, (c_text h1 h3 (d := d) (by omega) hrs).1 cb0]
  have e2 := (c_text h1 h3 (d := d) (t := nI i) (by omega) hrs).2 i hi rfl
  have hkl : k ≤ (chs (X j)).length := by rw [chs_len]; exact hk
  by_cases hij : i = j
  · refine ⟨.inr 0, xskip S 6, _, ?_, .inr ⟨j, k, i, hj, hi, rfl, rfl, rfl, hkl, .inl ⟨hij, rfl, rfl⟩⟩, hskip, fun _ _ => rfl, hrs.skip⟩
    simp only [e_P_paste, gPo h1, e, Option.bind_some, xtry, e2]
    rw [ifeq (by omega) (by omega), if_pos hij]
    exact thr (by omega) hrs
  obtain ⟨w1, w2, w3, w4⟩ := id w
  dsimp only at w1 w2 w3
  obtain ⟨Rw, r1, r2, r3⟩ := CX_row h w hj
  obtain ⟨Qw, q1, q2, q3⟩ := CX_row h w hi
  have hnp2 := sm_np2 (fun t => chs (X t)) hi hj hij [] ((chs (X j)).take k ++ (chs (X i) ++ (chs (X j)).drop k))
  have hln2 := sm_len2 (fun t => chs (X t)) hi hj hij [] ((chs (X j)).take k ++ (chs (X i) ++ (chs (X j)).drop k))
  have hnp0 := sm_np2 (fun t => chs (X t)) hi hj hij [] []
  simp only [np] at hnp0
  have npX := row_np Rw
  have npQ := row_np Qw
  have npA := np_le ((chs (X j)).take k ++ (chs (X i) ++ (chs (X j)).drop k)) none
  have hLA : ((chs (X j)).take k ++ (chs (X i) ++ (chs (X j)).drop k)).length = tot (X j) + tot (X i) := by
    simp only [List.length_append, List.length_take, List.length_drop, chs_len]; omega
  have hLj := chs_len (X j)
  have hLi := chs_len (X i)
  rw [hLA] at npA hln2
  simp only [np, List.length_nil] at hnp2 hln2
  have tI : (nI (np none ((chs (X j)).take k ++ (chs (X i) ++ (chs (X j)).drop k))) - nI (X j).length - nI (X i).length).toInt = (np none ((chs (X j)).take k ++ (chs (X i) ++ (chs (X j)).drop k)) : Int) - (X j).length - (X i).length := by
    rw [Int32.toInt_sub, pk_sub31 (by omega) (by omega), nI_toInt (by omega), Int.bmod_def]; omega
  have hroom := c_room h w (d := d) (by omega) hrs (k := 0) (by omega) (p := nI (np none ((chs (X j)).take k ++ (chs (X i) ++ (chs (X j)).drop k))) - nI (X j).length - nI (X i).length) (by rw [tI]; omega)
  simp only [e_P_paste, gPo h1, e, Option.bind_some, xtry, e2]
  rw [ifeq (by omega) (by omega), if_neg hij]
  simp only [c_rootOf h1 h3 (d := d) (by omega) hj, c_rootOf h1 h3 (d := d) (by omega) hi, y_paste Rw Qw r3 q3 (d := d) (a := k) (by omega) hk, row_pieces Rw (d := d) (by omega), row_pieces Qw (d := d) (by omega), Option.bind_some, gPo h1]
  rw [show f_P_demandRoom d (some x) 0 = f_P_demandRoom d (some x) (nI 0) from rfl, hroom]
  by_cases c : sm (fun t => np none (va_up (va_up (fun t => chs (X t)) i []) j ((chs (X j)).take k ++ (chs (X i) ++ (chs (X j)).drop k)) t)) 16 ≤ 1024
  rotate_left 1
  · rw [if_neg (by rw [tI]; omega)]
    exact ⟨.inr 1, xskip S 6, _, rfl, .inr ⟨j, k, i, hj, hi, rfl, rfl, rfl, hkl, .inr ⟨hij, .inl ⟨c, rfl, rfl⟩⟩⟩, hskip, fun _ _ => rfl, hrs.skip⟩
  rw [if_pos (by rw [tI]; omega)]
  obtain ⟨w', hw'⟩ := h.2.2.2.2.2.2.2.1.T
  obtain ⟨h', tj⟩ := h.2.2.2.1 j hj
  obtain ⟨hi', ti⟩ := h.2.2.2.1 i hi
  have nj := h.2.2.2.2.1 j hj
  have ni := h.2.2.2.2.1 i hi
  obtain ⟨Nj, _⟩ := h.2.2.2.2.2.1 j hj
  obtain ⟨Ni, _⟩ := h.2.2.2.2.2.1 i hi
  have Nji := h.2.2.2.2.2.2.1 j i hj hi (Ne.symm hij)
  have f0 : ∀ a ∈ ads (X j), ¬ FA x B R X G (fun t => t = j ∨ t = i) a := fun a ha => h.fno (fun t => t = j ∨ t = i) hj (.inl rfl) ha
  have f0i : ∀ a ∈ ads (X i), ¬ FA x B R X G (fun t => t = j ∨ t = i) a := fun a ha => h.fno (fun t => t = j ∨ t = i) hi (.inr rfl) ha
  obtain ⟨S1, K, l', r', hy, hz, ys, zs, f1, k1, ty, tz, ey, ez, ny, nz, Nyz, nK, hF1, s1, fr1, rm1, len1⟩ := t_part (d := d) (f := k) (n := n) (m := m) (F := un (FA x B R X G (fun t => t = j ∨ t = i)) (ads (X i))) tj Nj nj ((h.fst (fun t => t = j ∨ t = i) (L := ads (X i) ++ ads (X j)) (fun a ha => by
      rcases List.mem_append.mp ha with g | g
      · exact ⟨i, hi, .inr rfl, g⟩
      · exact ⟨j, hj, .inl rfl, g⟩)).less fun b hb => by
      rcases hb with (g | g) | g
      · exact .inl g
      · exact .inr (List.mem_append_left _ g)
      · exact .inr (List.mem_append_right _ g)) (fun a ha g => by
      rcases g with g | g
      · exact f0 a ha g
      · exact Nji a ha g) (by omega) (by omega) (by omega) r3 (by omega) (hr.less (by omega) (by omega))
  have x1 := (fr1 x (.inl (.inr (.inl rfl)))).trans h1
  have FAR : FA x B R X G (fun t => t = j ∨ t = i) R := .inr (.inr (.inr (.inl rfl)))
  have R1 := (fr1 R (.inl FAR)).trans h3
  have b2 := c_become (d := d) (r := none) x1 R1 hi (tr_nil _) (by omega)
  have sx : ∀ b, b ≠ R → (xset S1 R (rarr (va_up rts i none))).1 b = S1.1 b := fun b hb => xset_ne _ hb
  have R2 := xset_at S1 R (rarr (va_up rts i none))
  have m2 : (xset S1 R (rarr (va_up rts i none))).2 = S1.2 := rfl
  have s2 : St (xset S1 R (rarr (va_up rts i none))) T (un (un (FA x B R X G (fun t => t = j ∨ t = i)) (ads (X i))) (K :: ads (ys ++ zs))) := s1.kept rfl fun b hb => xset_ne _ (fun e => hb (.inl (.inl (.inr (.inr (.inr (.inl e)))))))
  generalize xset S1 R (rarr (va_up rts i none)) = S2 at b2 sx R2 m2 s2
  have xR : x ≠ R := fun e => by rw [e, h3] at h1; simp [pobj, rarr] at h1
  have x2 := (sx x xR).trans x1
  have KR : K ≠ R := fun e => nK (.inl (by rw [e]; exact FAR))
  have k2 := (sx K KR).trans k1
  have nRn : ∀ e ∈ ads (ys ++ zs), e ≠ R := fun e he g => (hF1 e he).1 (.inl (by rw [g]; exact FAR))
  have nRi : ∀ e ∈ ads (X i), e ≠ R := fun e he => (h.node hi he).2.2.1
  have mY : ∀ e ∈ ads ys, e ∈ ads (ys ++ zs) := fun e he => by rw [ads_app]; exact List.mem_append_left _ he
  have mZ : ∀ e ∈ ads zs, e ∈ ads (ys ++ zs) := fun e he => by rw [ads_app]; exact List.mem_append_right _ he
  obtain ⟨Ny, Nz, Nd⟩ := nodup_un Nyz
  have ty2 : tr S2.1 hy l' ys := tr_kept ty fun b hb => sx b (nRn b (mY b hb))
  have tz2 : tr S2.1 hz r' zs := tr_kept tz fun b hb => sx b (nRn b (mZ b hb))
  have ti2 : tr S2.1 hi' (rts i) (X i) := tr_kept ti fun b hb => by rw [sx b (nRi b hb), fr1 b (.inr hb)]
  obtain ⟨w2', hw2'⟩ := s2.T
  have memE : ∀ e, e ∈ ads (ys ++ (X i ++ zs)) ↔ e ∈ ads (ys ++ zs) ∨ e ∈ ads (X i) := fun e => by
    simp only [ads_app, List.mem_append]
    constructor
    · rintro (g | g | g)
      · exact .inl (.inl g)
      · exact .inr g
      · exact .inl (.inr g)
    · rintro ((g | g) | g)
      · exact .inl g
      · exact .inr (.inr g)
      · exact .inr (.inl g)
  have iK : ∀ e ∈ ads (X i), e ≠ K := fun e he g => nK (.inr (by rw [← g]; exact he))
  have cbA : ∀ c ∈ (chs (X j)).take k ++ (chs (X i) ++ (chs (X j)).drop k), c.1 < nb := fun c hc => by
    rw [List.mem_append, List.mem_append] at hc
    rcases hc with g | g | g
    · exact w3 j hj c (List.mem_of_mem_take g)
    · exact w3 i hi c g
    · exact w3 j hj c (List.mem_of_mem_drop g)
  obtain ⟨r3', S3, r4, S4, z4, h4, f3, fr3, hw3, f4, t4, n4, e4, N4, K4, s4, fr4, m4, l4⟩ := t_meet2 (d := d) (F := un (FA x B R X G (fun t => t = j ∨ t = i)) [K]) ty2 ti2 tz2 (by
      rw [ads_app, List.nodup_append, ads_app, List.nodup_append]
      refine ⟨Ny, ⟨Ni, Nz, fun e he g hg h => ?_⟩, fun e he g hg h => ?_⟩
      · subst h
        exact (hF1 e (mZ _ hg)).1 (.inr he)
      · subst h
        rcases List.mem_append.mp hg with g' | g'
        · exact (hF1 e (mY _ he)).1 (.inr g')
        · exact Nd e he g') ny ni nz (s2.less fun b hb => by
      rcases hb with (g | g) | g
      · exact .inl (.inl g)
      · exact .inr (by simp at g; simp [g])
      · rcases (memE b).mp g with g | g
        · exact .inr (List.mem_cons_of_mem _ g)
        · exact .inl (.inr g)) (fun b hb g => by
      rcases (memE b).mp hb with e | e
      · rcases g with g | g
        · exact (hF1 b e).1 (.inl g)
        · simp at g; exact (hF1 b e).2 g
      · rcases g with g | g
        · exact f0i b e g
        · simp at g; exact iK b e g) (by omega) (fun c hc => by
      rw [chs_app, chs_app, ey, ez] at hc
      have := cbA c hc
      omega) (by omega)
  have x3 := (fr3 x (.inl (.inr (.inl rfl)))).trans x2
  have k3 := (fr3 K (.inr (by simp))).trans k2
  obtain ⟨w3', hw3'⟩ := hw3
  have x4 := (fr4 x (.inl (.inr (.inl rfl)))).trans x2
  have R4 := (fr4 R (.inl FAR)).trans R2
  have hfin := c_become (d := d) x4 R4 hj t4 (by omega)
  have ec4 : chs z4 = (chs (X j)).take k ++ (chs (X i) ++ (chs (X j)).drop k) := by rw [e4, ey, ez]
  obtain ⟨hCX, hG⟩ := CX_fin (rts' := va_up (va_up rts i none) j r4) (X' := va_up (va_up X i []) j z4) (L := ads z4) h (fun t => t = j ∨ t = i) (S4 := S4) (fun b hb hbR => by rw [fr4 b (.inl hb), sx b hbR, fr1 b (.inl hb)]) R4 (s4.less fun b hb => hb.imp .inl id) (fun v _ hv => by
      have e1 : v ≠ j := fun g => hv (.inl g)
      have e2 : v ≠ i := fun g => hv (.inr g)
      exact ⟨by rw [va_up_ne _ _ e1, va_up_ne _ _ e2], by rw [va_up_ne _ _ e1, va_up_ne _ _ e2]⟩) (fun v _ hv => by
      by_cases e1 : v = j
      · subst e1
        rw [va_up_self, va_up_self]
        refine ⟨⟨h4, t4⟩, n4, N4, fun a ha => ⟨?_, ha⟩⟩
        rcases (memE a).mp (K4 a ha) with g | g
        · exact fun e => (hF1 a g).1 (.inl e)
        · exact f0i a g
      · have e2 : v = i := hv.resolve_left e1
        subst e2
        rw [va_up_ne _ _ e1, va_up_ne _ _ e1, va_up_self, va_up_self]
        exact ⟨⟨0, tr_nil _⟩, trivial, by simp [ads], fun a ha => nomatch ha⟩) (fun v u _ _ hv hu hvu a ha ga => by
      by_cases e1 : v = j
      · have e2 : u ≠ j := fun e => hvu (e1.trans e.symm)
        have e3 : u = i := hu.resolve_left e2
        rw [e3, va_up_ne _ _ hij, va_up_self] at ga
        cases ga
      · have e2 : v = i := hv.resolve_left e1
        rw [e2, va_up_ne _ _ hij, va_up_self] at ha
        cases ha)
  refine ⟨.inl (nI (tot z4)), xset S4 R (rarr (va_up (va_up rts i none) j r4)), va_up (va_up (fun t => chs (X t)) i []) j ((chs (X j)).take k ++ (chs (X i) ++ (chs (X j)).drop k)), ?_, ?_, ⟨B, R, T, g, _, _, hCX, ?_, hg, WF_up2 w (by omega) c (fun c hc => nomatch hc) cbA⟩, hG, rm1.same (by rw [xset_2, m4, m2])⟩
  · simp only [gP3 h1, hw', f1, Option.bind_some, gPo x1, b2, gP3 x2, gK0 k2, hw2', f3, gK1 k3, hw3', f4, gPo x4, hfin]
  · refine .inr ⟨j, k, i, hj, hi, rfl, rfl, rfl, hkl, .inr ⟨hij, .inr ⟨c, rfl, ?_⟩⟩⟩
    rw [va_up_self, ← ec4, chs_len]
  · funext u
    by_cases e1 : u = j
    · subst e1; rw [va_up_self, va_up_self, ec4]
    · rw [va_up_ne _ _ e1, va_up_ne _ _ e1]
      by_cases e2 : u = i
      · subst e2; rw [va_up_self, va_up_self]; rfl
      · rw [va_up_ne _ _ e2, va_up_ne _ _ e2]
