/-! COPYING A PART OF A ROW -/
def rng (l : List chr) (f t : Nat) : List chr := (l.take t).drop f
theorem rng_app (A B : List chr) (f t : Nat) : rng (A ++ B) f t = rng A f t ++ rng B (f - A.length) (t - A.length) := by
  simp only [rng, List.take_append, List.drop_append, List.length_take]
  by_cases c : A.length ≤ t
  · rw [Nat.min_eq_right c]
  · have e : t - A.length = 0 := by omega
    simp [e]
theorem rng_run (s z f t' : Nat) (t : Int32) : rng (run s z t) f t' = run (s + f) (min t' z - f) t := by
  rw [rng, run_take, run_drop]
theorem rng_nil {l : List chr} {f t : Nat} (h : t ≤ f) : rng l f t = [] := by
  apply List.drop_of_length_le
  rw [List.length_take]; omega
theorem rng_nil2 {l : List chr} {f t : Nat} (h : l.length ≤ f) : rng l f t = [] := by
  apply List.drop_of_length_le
  rw [List.length_take]; omega
theorem rng_min {l : List chr} {f t n : Nat} (h : l.length ≤ n) : rng l f (min t n) = rng l f t := by
  unfold rng
  by_cases c : t ≤ n
  · rw [Nat.min_eq_left c]
  · rw [Nat.min_eq_right (by omega), List.take_of_length_le h, List.take_of_length_le (by omega)]
theorem chs_nil {xs : List nd} {o : Option chr} (h : nrm o xs) (e : chs xs = []) : xs = [] := by
  cases xs with
  | nil => rfl
  | cons x xs =>
    have := congrArg List.length e
    rw [chs_len, tot_cons] at this
    have := h.1
    simp at *
    omega
theorem t_twin (v : Nat) : ∀ {S : xS} {T d h n m f t' : Nat} {w : Int32} {p : Option Nat} {xs : List nd} {F : Nat → Prop}, tr S.1 h p xs → nrm none xs → St S T F → (∀ a ∈ ads xs, F a) → xs.length < 1999 → tot xs ≤ 10000 → f ≤ 10000 → t' ≤ 10000 → (w = nI t' ∨ (w.toInt < 0 ∧ t' = 0)) → (∀ c ∈ chs xs, c.1 < 4096) → h ≤ v → v ≤ 40 → 60 + v < d → rm S (n + xs.length) (m + 8 * xs.length) →
    ∃ (S' : xS) (r' : Option Nat) (h' : Nat) (zs : List nd), f_T_twin d (some T) p (nI f) w (nI v) S = some (r', S') ∧ tr S'.1 h' r' zs ∧ nrm none zs ∧ chs zs = rng (chs xs) f t' ∧ (ads zs).Nodup ∧ (∀ a ∈ ads zs, ¬ F a) ∧ St S' T (un F (ads zs)) ∧ (∀ b, F b → S'.1 b = S.1 b) ∧ rm S' n m ∧ zs.length ≤ xs.length := by
  have unil : ∀ {S : xS} {T : Nat} {F : Nat → Prop}, St S T F → St S T (un F (ads [])) := fun hs => hs.less fun b hb => hb.elim id fun g => nomatch g
  induction v with
  | zero =>
    intro S T d h n m f t' w p xs F tp hn hs hF hl ht hf ht' hw cb hv _ hd hr
    have h0 : h = 0 := by omega
    subst h0
    obtain ⟨rfl, rfl⟩ := tr_zero tp
    obtain ⟨d, rfl⟩ : ∃ e, d = e + 1 := ⟨d - 1, by omega⟩
    exact ⟨S, none, 0, [], rfl, tr_nil _, trivial, by simp [chs, rng], by simp [ads], (fun a ha => nomatch ha), unil hs, fun _ _ => rfl, hr, by simp⟩
  | succ v ih =>
    intro S T d h n m f t' w p xs F tp hn hs hF hl ht hf ht' hw cb hv hv' hd hr
    obtain ⟨d, rfl⟩ : ∃ e, d = e + 1 := ⟨d - 1, by omega⟩
    rcases tr_inv tp with ⟨rfl, rfl, rfl⟩ | ⟨a, s, z, t, l, q, h1, h2, xl, xr, rfl, rfl, rfl, ha, g1, g2, tl, tq⟩
    · exact ⟨S, none, 0, [], rfl, tr_nil _, trivial, by simp [chs, rng], by simp [ads], (fun a ha => nomatch ha), unil hs, fun _ _ => rfl, hr, by simp⟩
    show ∃ S' r' h' zs, e_T_twin d (f_T_twin d) (some T) (some a) (nI f) w (nI (v + 1)) S = some (r', S') ∧ _
    have c0 : (1 : Int32) ≤ nI (v + 1) := nI_le (a := 1) (by omega) (by omega)
    rw [tot_app, tot_cons] at ht
    simp only [List.length_append, List.length_cons] at hl ht hr
    by_cases c1 : t' ≤ f
    · have cw : w ≤ nI f := by
        rcases hw with rfl | ⟨g, _⟩
        · exact nI_le c1 (by omega)
        · rw [Int32.le_iff_toInt_le, nI_toInt (by omega)]; omega
      refine ⟨S, none, 0, [], ?_, tr_nil _, trivial, by rw [rng_nil c1]; rfl, by simp [ads], (fun a ha => nomatch ha), unil hs, fun _ _ => rfl, rm.less hr (by omega) (by omega), by simp⟩
      simp only [e_T_twin, b_T_twin_15, xcase_some, if_pos cw]
    have ew : w = nI t' := by
      rcases hw with e | ⟨_, g⟩
      · exact e
      · omega
    subst ew
    have cw : ¬ nI t' ≤ nI f := nI_ge (by omega) (by omega)
    obtain ⟨o, ho⟩ := hs.T
    simp only [e_T_twin, b_T_twin_118, xcase_some, if_neg cw, if_pos c0, gR3 ha, gR4 ha, gI1 ha, Option.bind_some, nI_pred, r_chars tl (d := d) (by omega), ho, nI_add, xmin_nI (show t' < 2 ^ 31 by omega) (show tot xl < 2 ^ 31 by omega), xmax_nI (show f < 2 ^ 31 by omega) (show tot xl + z < 2 ^ 31 by omega), xmax_nI (show f < 2 ^ 31 by omega) (show tot xl < 2 ^ 31 by omega), xmin_nI (show t' < 2 ^ 31 by omega) (show tot xl + z < 2 ^ 31 by omega)]
    have nl := ((nrm_app _ _ _).mp hn).1
    have nr := ((nrm_app _ _ _).mp hn).2
    have zp : 0 < z := nr.1
    have ebnd : s + z ≤ 4096 := cb_piece cb (x := (a, s, z, t)) (by simp) zp
    have hFl : ∀ e ∈ ads xl, F e := fun e he => hF e (by rw [ads_app]; exact List.mem_append_left _ he)
    have hFr : ∀ e ∈ ads xr, F e := fun e he => hF e (by rw [ads_app, ads_c4]; exact List.mem_append_right _ (List.mem_cons_of_mem _ he))
    have hFa : F a := hF a (by rw [ads_app, ads_c4]; simp)
    obtain ⟨S1, rl, hl', zl, f1, t1, n1, e1, N1, F1, s1, fr1, rm1, len1⟩ := ih (d := d) (n := n + 1 + xr.length) (m := m + 8 + 8 * xr.length) (f := f) (t' := min t' (tot xl)) tl nl hs hFl (by omega) (by omega) hf (by omega) (.inl rfl) (fun c hc => cb c (by rw [chs_app]; exact List.mem_append_left _ hc)) (by omega) (by omega) (by omega) (rm.less hr (by omega) (by omega))
    simp only [f1, Option.bind_some]
    have ha1 := (fr1 a hFa).trans ha
    have tq1 : tr S1.1 h2 q xr := tr_kept tq fun b hb => fr1 b (hFr b hb)
    obtain ⟨o1, ho1⟩ := s1.T
    have pm : nI (max f (tot xl + z)) - nI (tot xl + z) = nI (f - (tot xl + z)) := by
      rw [pk_sub (by omega)]; congr 1; omega
    simp only [gR4 ha1, Option.bind_some, ho1, pm]
    have hw2 : nI t' - nI (tot xl + z) = nI (t' - (tot xl + z)) ∨ ((nI t' - nI (tot xl + z)).toInt < 0 ∧ t' - (tot xl + z) = 0) := by
      by_cases c : tot xl + z ≤ t'
      · left; exact pk_sub c
      · right
        exact ⟨by rw [pk_sub_toInt (by omega) (by omega)]; omega, by omega⟩
    obtain ⟨S2, rr, hr', zr, f2, t2, n2, e2, N2, F2, s2, fr2, rm2, len2⟩ := ih (d := d) (n := n + 1) (m := m + 8) (f := f - (tot xl + z)) (t' := t' - (tot xl + z)) tq1 (nrm_none nr.2.2) s1 (fun e he => .inl (hFr e he)) (by omega) (by omega) (by omega) (by omega) hw2 (fun c hc => cb c (by rw [chs_app]; refine List.mem_append_right _ ?_; show c ∈ run _ _ _ ++ chs xr; exact List.mem_append_right _ hc)) (by omega) (by omega) (by omega) rm1
    simp only [f2, Option.bind_some]
    have eall : rng (chs (xl ++ (a, s, z, t) :: xr)) f t' = chs zl ++ (run (s + (f - tot xl)) (min (t' - tot xl) z - (f - tot xl)) t ++ chs zr) := by
      rw [chs_app, rng_app, chs_len, e1, rng_min (by rw [chs_len]; exact Nat.le_refl _)]
      show _ ++ rng (run s z t ++ chs xr) _ _ = _
      rw [rng_app, run_len, rng_run, e2, Nat.sub_sub, Nat.sub_sub]
    rw [iflt (by omega) (by omega)]
    have tl2 : tr S2.1 hl' rl zl := tr_kept t1 fun b hb => fr2 b (.inr hb)
    by_cases c2 : max f (tot xl) < min t' (tot xl + z)
    · rw [if_pos c2]
      have ha2 := (fr2 a (.inl hFa)).trans ha1
      obtain ⟨o2, ho2⟩ := s2.T
      have es : nI s + nI (max f (tot xl)) - nI (tot xl) = nI (s + (f - tot xl)) := by
        rw [nI_add, pk_sub (by omega)]; congr 1; omega
      have ez : nI (min t' (tot xl + z)) - nI (max f (tot xl)) = nI (min (t' - tot xl) z - (f - tot xl)) := by
        rw [pk_sub (by omega)]; congr 1; omega
      obtain ⟨a3, S3, f3, ha3, s3, n3, nT3, fr3, rm3⟩ := t_take (d := d) (s := s + (f - tot xl)) (z := min (t' - tot xl) z - (f - tot xl)) (t := t) s2 rm2 (by omega)
      simp only [gI0 ha2, gI2 ha2, ho2, Option.bind_some, es, ez, f3]
      have tl3 : tr S3.1 hl' rl zl := tr_kept tl2 fun b hb => fr3 b (.inl (.inr hb))
      have tr3 : tr S3.1 hr' rr zr := tr_kept t2 fun b hb => fr3 b (.inr hb)
      have Nj : (ads (zl ++ (a3, s + (f - tot xl), min (t' - tot xl) z - (f - tot xl), t) :: zr)).Nodup := by
        rw [ads_app, ads_c4, List.nodup_append, List.nodup_cons]
        refine ⟨N1, ⟨fun g => n3 (.inr g), N2⟩, fun e he g hg h => ?_⟩
        subst h
        rcases List.mem_cons.mp hg with g | g
        · exact n3 (.inl (.inr (by rw [← g]; exact he)))
        · exact F2 e g (.inr he)
      obtain ⟨r4, S4, h4, f4, t4, m4, fr4, _, _⟩ := t_join 40 (d := d) ha3 tl3 tr3 Nj (by omega) (by have := tr_low tl3 (by omega); omega) (by have := tr_low tr3 (by omega); omega) (by omega) (by omega)
      have hf4 : f_T_join d rl (some a3) rr 40 S3 = some (r4, S4) := f4
      simp only [hf4, Option.bind_some]
      refine ⟨S4, r4, h4, _, rfl, t4, ?_, ?_, Nj, ?_, ?_, ?_, rm3.same m4, by simp only [List.length_append, List.length_cons]; omega⟩
      · refine (nrm_app _ _ _).mpr ⟨n1, by show 0 < min (t' - tot xl) z - (f - tot xl); omega, ?_, ?_⟩
        · show mq (lst none (chs zl)) (s + (f - tot xl), t) = 1
          rw [e1, rng_min (by rw [chs_len]; exact Nat.le_refl _)]
          unfold rng
          rw [List.take_of_length_le (by rw [chs_len]; omega)]
          by_cases c3 : f < tot xl
          · have e5 : s + (f - tot xl) = s := by omega
            rw [e5]
            rcases lst_drop (chs xl) f with g | g
            · rw [g]; rfl
            · rw [g]; exact nr.2.1
          · rw [List.drop_of_length_le (by rw [chs_len]; omega)]; rfl
        · show nrm (some (s + (f - tot xl) + (min (t' - tot xl) z - (f - tot xl)) - 1, t)) zr
          by_cases c3 : tot xl + z ≤ t'
          · have e5 : s + (f - tot xl) + (min (t' - tot xl) z - (f - tot xl)) - 1 = s + z - 1 := by omega
            have e6 : f - (tot xl + z) = 0 := by omega
            rw [e5]
            refine nrm_pre nr.2.2 n2 (k := t' - (tot xl + z)) ?_
            rw [e2, e6]; rfl
          · have e6 : zr = [] := chs_nil n2 (by rw [e2]; exact rng_nil (by omega))
            rw [e6]; trivial
      · rw [eall, chs_app]; rfl
      · intro e he
        rw [ads_app, ads_c4, List.mem_append, List.mem_cons] at he
        rcases he with g | g | g
        · exact F1 e g
        · rw [g]; exact fun h => n3 (.inl (.inl h))
        · exact fun h => F2 e g (.inl h)
      · have s5 : St S3 T (un F (ads (zl ++ (a3, s + (f - tot xl), min (t' - tot xl) z - (f - tot xl), t) :: zr))) := s3.less fun b hb => by
          rcases hb with g | g
          · exact .inl (.inl (.inl g))
          · rw [ads_app, ads_c4, List.mem_append, List.mem_cons] at g
            rcases g with g | g | g
            · exact .inl (.inl (.inr g))
            · exact .inr (by simp [g])
            · exact .inl (.inr g)
        exact s5.kept m4 fun b hb => fr4 b (fun g => hb (.inr g))
      · intro b hb
        have e5 : b ∉ ads (zl ++ (a3, s + (f - tot xl), min (t' - tot xl) z - (f - tot xl), t) :: zr) := fun g => by
          rw [ads_app, ads_c4, List.mem_append, List.mem_cons] at g
          rcases g with g | g | g
          · exact F1 b g hb
          · exact n3 (.inl (.inl (by rw [← g]; exact hb)))
          · exact F2 b g (.inl hb)
        rw [fr4 b e5, fr3 b (.inl (.inl hb)), fr2 b (.inl hb), fr1 b hb]
    · rw [if_neg c2]
      have emid : run (s + (f - tot xl)) (min (t' - tot xl) z - (f - tot xl)) t = [] := by
        have : min (t' - tot xl) z - (f - tot xl) = 0 := by omega
        rw [this, run_zero]
      rw [emid, List.nil_append] at eall
      rcases tr_top tl2 with ⟨rfl, _, rfl⟩ | ⟨b, _, _, _, _, _, rfl, hb, _⟩
      · simp only [xcase_none]
        refine ⟨S2, rr, hr', zr, rfl, t2, n2, by rw [eall]; rfl, N2, fun e he h => F2 e he (.inl h), s2.less fun b hb => ?_, fun b hb => by rw [fr2 b (.inl hb), fr1 b hb], rm.less rm2 (by omega) (by omega), by simp only [List.length_append, List.length_cons]; omega⟩
        exact hb.imp .inl id
      · simp only [xcase_some]
        have hzl : ¬ (min t' (tot xl) ≤ f) := fun g => by
          have : zl = [] := chs_nil n1 (by rw [e1]; exact rng_nil g)
          rw [this] at hb; cases hb
        have hzl2 : f < tot xl := by omega
        have e6 : zr = [] := chs_nil n2 (by rw [e2]; exact rng_nil (by omega))
        subst e6
        refine ⟨S2, some b, hl', zl, rfl, tl2, n1, by rw [eall]; simp [chs], N1, F1, s2.less fun b hb => ?_, fun b hb => by rw [fr2 b (.inl hb), fr1 b hb], rm.less rm2 (by omega) (by omega), by simp only [List.length_append, List.length_cons]; omega⟩
        exact .inl hb
