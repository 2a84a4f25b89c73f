/-! WHERE TWO ROWS MEET -/
theorem cb_piece {xs : List nd} (h : ∀ c ∈ chs xs, c.1 < 4096) {x : nd} (hx : x ∈ xs) (hz : 0 < x.2.2.1) : x.2.1 + x.2.2.1 ≤ 4096 := by
  induction xs with
  | nil => cases hx
  | cons y xs ih =>
    rcases List.mem_cons.mp hx with rfl | hx
    · have := h (x.2.1 + (x.2.2.1 - 1), x.2.2.2) (by
        show _ ∈ run _ _ _ ++ chs xs
        exact List.mem_append_left _ (List.mem_of_getElem? (run_at (i := x.2.2.1 - 1) (by omega))))
      simp only at this; omega
    · exact ih (fun c hc => h c (by show _ ∈ run _ _ _ ++ chs xs; exact List.mem_append_right _ hc)) hx
theorem nodup_un {A B : List nd} (h : (ads (A ++ B)).Nodup) : (ads A).Nodup ∧ (ads B).Nodup ∧ ∀ e ∈ ads A, e ∉ ads B := by
  rw [ads_app, List.nodup_append] at h
  exact ⟨h.1, h.2.1, fun e he g => h.2.2 e he e g rfl⟩
theorem t_meet {S : xS} {T d hl hr : Nat} {l q : Option Nat} {xl xr : List nd} {F : Nat → Prop} (tl : tr S.1 hl l xl) (tq : tr S.1 hr q xr) (N : (ads (xl ++ xr)).Nodup) (nl : nrm none xl) (nr : nrm none xr) (hs : St S T (un F (ads (xl ++ xr)))) (hF : ∀ a ∈ ads (xl ++ xr), ¬ F a) (hlen : xl.length + xr.length < 2000) (cb : ∀ c ∈ chs (xl ++ xr), c.1 < 4096) (hd : 60 < d) :
    ∃ (r' : Option Nat) (S' : xS) (zs : List nd) (h' : Nat), f_T_meet d (some T) l q S = some (r', S') ∧ tr S'.1 h' r' zs ∧ nrm none zs ∧ chs zs = chs xl ++ chs xr ∧ (ads zs).Nodup ∧ (∀ a ∈ ads zs, a ∈ ads (xl ++ xr)) ∧ St S' T (un F (ads zs)) ∧ (∀ b, F b → S'.1 b = S.1 b) ∧ S'.2 = S.2 ∧ zs.length ≤ xl.length + xr.length := by
  obtain ⟨d, rfl⟩ : ∃ e, d = e + 1 := ⟨d - 1, by omega⟩
  show ∃ r' S' zs h', e_T_meet d (some T) l q S = some (r', S') ∧ _
  simp only [e_T_meet, t_last tl (by omega) (d := d) (by omega), t_first tq (by omega) (d := d) (by omega), Option.bind_some]
  rcases List.eq_nil_or_concat xl with rfl | ⟨xl', x, rfl⟩
  · simp only [List.getLast?_nil, Option.map_none, xcase_none]
    exact ⟨q, S, xr, hr, rfl, tq, nr, rfl, N, fun a ha => ha, hs, fun _ _ => rfl, rfl, by simp⟩
  simp only [List.concat_eq_append] at *
  cases xr with
  | nil =>
    simp only [List.getLast?_append, List.getLast?_singleton, Option.some_or, Option.map_some, List.head?_nil, Option.map_none, xcase_some, xcase_none]
    refine ⟨l, S, xl' ++ [x], hl, rfl, tl, nl, by simp [chs], by simpa using N, fun a ha => by simpa using ha, by simpa using hs, fun _ _ => rfl, rfl, by simp⟩
  | cons y xr =>
    simp only [List.getLast?_append, List.getLast?_singleton, Option.some_or, Option.map_some, List.head?_cons, xcase_some]
    obtain ⟨xa, xs, xz, xt⟩ := x
    obtain ⟨ya, ys, yz, yt⟩ := y
    obtain ⟨lx, qx, ix, jx, kx, hx⟩ := tr_cell tl (xa, xs, xz, xt) (by simp)
    obtain ⟨ly, qy, iy, jy, ky, hy⟩ := tr_cell tq (ya, ys, yz, yt) (by simp)
    simp only at hx hy
    have zx : 0 < xz := nrm_pos nl (xa, xs, xz, xt) (by simp)
    have zy : 0 < yz := nr.1
    have bx : xs + xz ≤ 4096 := cb_piece cb (x := (xa, xs, xz, xt)) (by simp) zx
    have by' : ys + yz ≤ 4096 := cb_piece cb (x := (ya, ys, yz, yt)) (by simp) zy
    simp only [List.length_append, List.length_cons, List.length_nil] at hlen
    obtain ⟨N1, N2, N3⟩ := nodup_un N
    obtain ⟨p1, _, p3, _, _⟩ := nup (xl := xl') (xr := []) N1
    obtain ⟨q1, q2⟩ := List.nodup_cons.mp N2
    have sxa : xa ∈ ads (xl' ++ [(xa, xs, xz, xt)]) := by simp [ads]
    have nxa : xa ∉ ads xr := fun g => N3 xa sxa (by rw [ads_cons]; exact List.mem_cons_of_mem _ g)
    have nxy : xa ≠ ya := fun g => N3 xa sxa (by rw [ads_cons]; simp [g])
    have nyl : ya ∉ ads xl' := fun g => N3 ya (by rw [ads_app]; exact List.mem_append_left _ g) (by rw [ads_cons]; simp)
    have nlr : ∀ e ∈ ads xl', e ∉ ads xr := fun e he g => N3 e (by rw [ads_app]; exact List.mem_append_left _ he) (by rw [ads_cons]; exact List.mem_cons_of_mem _ g)
    have nT : ∀ e ∈ ads (xl' ++ [(xa, xs, xz, xt)] ++ (ya, ys, yz, yt) :: xr), e ≠ T := fun e he g => hs.1 (.inr (by rw [← g]; exact he))
    have hlx : lst none (chs (xl' ++ [(xa, xs, xz, xt)])) = some (xs + xz - 1, xt) := by
      rw [chs_app, lst_app]
      show lst _ (run xs xz xt ++ []) = _
      rw [List.append_nil, lst_run _ _ _ _ zx]
    have nl' := (nrm_app xl' [(xa, xs, xz, xt)] none).mp nl
    simp only [gI0 hx, gI1 hx, gI2 hx, gI0 hy, gI2 hy, Option.bind_some, nI_add]
    rw [ifeq (by omega) (by omega)]
    by_cases c : xs + xz = ys ∧ xt = yt
    · obtain ⟨c1, c2⟩ := c
      rw [if_pos c1, if_pos c2]
      obtain ⟨r1, S1, h1, f1, t1, m1, fr1, _, _⟩ := t_wof 40 (d := d) tq N2 (by omega) (by have := tr_low tq (by simp only [List.length_cons]; omega); omega) (by omega) (by omega)
      have hx1 := (fr1 xa nxa).trans hx
      have hy1 := (fr1 ya q1).trans hy
      have hf1 : f_T_withoutFirst d q 40 S = some (r1, S1) := f1
      simp only [hf1, Option.bind_some, gI1 hx1, gI1 hy1, nI_add, pP1 hx1]
      have sx : ∀ b, b ≠ xa → (xset S1 xa (pcell (nI xs) (nI (xz + yz)) xt lx qx ix jx kx)).1 b = S1.1 b := fun b hb => xset_ne _ hb
      have hx2 := xset_at S1 xa (pcell (nI xs) (nI (xz + yz)) xt lx qx ix jx kx)
      have m2 : (xset S1 xa (pcell (nI xs) (nI (xz + yz)) xt lx qx ix jx kx)).2 = S1.2 := rfl
      generalize xset S1 xa (pcell (nI xs) (nI (xz + yz)) xt lx qx ix jx kx) = S2 at sx hx2 m2 ⊢
      have hy2 := (sx ya (Ne.symm nxy)).trans hy1
      have hs2 : St S2 T (un F (ads (xl' ++ [(xa, xs, xz, xt)] ++ (ya, ys, yz, yt) :: xr))) := hs.kept (by rw [m2, m1]) fun b hb => by
        have hb' : b ∉ ads (xl' ++ [(xa, xs, xz, xt)] ++ (ya, ys, yz, yt) :: xr) := fun g => hb (.inr g)
        rw [asc1 xl' [] xr] at hb'
        have u1 := nin hb'
        have u2 := nin (xl := []) u1.2.2
        rw [sx b u1.2.1, fr1 b u2.2.2]
      obtain ⟨w, hw⟩ := hs2.T
      obtain ⟨S3, f3, m3, hs3, fr3⟩ := t_give (d := d) hs2 hy2 (.inr (by rw [ads_app, ads_cons]; simp)) (G := un F (ads (xl' ++ (xa, xs, xz + yz, xt) :: xr))) (fun b hb => hb.imp id fun g => by
        simp only [ads_app, ads_cons, ads_nil, List.mem_append, List.mem_cons] at g ⊢
        rcases g with g | g | g
        · exact .inl (.inl g)
        · exact .inl (.inr (.inl g))
        · exact .inr (.inr g)) (fun g => by
        rcases g with g | g
        · exact hF ya (by rw [ads_app, ads_cons]; simp) g
        · simp only [ads_app, ads_cons, List.mem_append, List.mem_cons] at g
          rcases g with g | g | g
          · exact nyl g
          · exact nxy g.symm
          · exact q1 g) (by omega)
      simp only [hw, Option.bind_some, f3, b_T_meet_84]
      have neT : ∀ e ∈ ads xl', e ≠ T := fun e he => nT e (by rw [ads_app, ads_app]; simp [he])
      have hx3 := (fr3 xa nxy (nT xa (by rw [ads_app, ads_app]; simp [ads]))).trans hx2
      obtain ⟨r4, S4, h4, f4, t4, m4, fr4, _, _⟩ := t_wol 40 (S := S3) (d := d) tl (fun b hb => by
          rw [fr3 b (fun g => nyl (by rw [← g]; exact hb)) (neT b hb), sx b (fun g => p3 (by rw [← g]; exact hb)), fr1 b (nlr b hb)]) (fun s' z' t' l' q' i' j' k' e => by
          simp only at e
          rw [hx] at e
          simp only [pcell, Option.some.injEq, Sum.inr.injEq, Prod.mk.injEq, List.cons.injEq, true_and, and_true] at e
          obtain ⟨_, _, _, e4, e5, _⟩ := e
          have e4' : lx = l' := by cases lx <;> cases l' <;> simp_all [va_rf]
          have e5' : qx = q' := by cases qx <;> cases q' <;> simp_all [va_rf]
          exact ⟨_, _, _, _, _, _, by rw [← e4', ← e5']; exact hx3⟩) N1 (by omega) (by have := tr_low tl (by simp only [List.length_append, List.length_cons, List.length_nil]; omega); omega) (by omega) (by omega)
      have hf4 : f_T_withoutLast d l 40 S3 = some (r4, S4) := f4
      have hx4 := (fr4 xa p3).trans hx3
      have t1' : tr S4.1 h1 r1 xr := tr_kept t1 fun b hb => by
        rw [fr4 b (fun g => nlr b g hb), fr3 b (fun g => q1 (by rw [← g]; exact hb)) (nT b (by simp only [ads_app, ads_cons, List.mem_append, List.mem_cons]; exact .inr (.inr hb))), sx b (fun g => nxa (by rw [← g]; exact hb))]
      have Nz : (ads (xl' ++ (xa, xs, xz + yz, xt) :: xr)).Nodup := by
        rw [ads_app, ads_cons, List.nodup_append, List.nodup_cons]
        refine ⟨p1, ⟨nxa, q2⟩, fun e he f hf g => ?_⟩
        subst g
        rcases List.mem_cons.mp hf with g | g
        · exact p3 (by rw [← g]; exact he)
        · exact nlr e he g
      obtain ⟨r5, S5, h5, f5, t5, m5, fr5, _, _⟩ := t_join 40 (d := d) hx4 t4 t1' Nz (by omega) (by have := tr_low t4 (by omega); omega) (by have := tr_low t1' (by omega); omega) (by omega) (by omega)
      have hf5 : f_T_join d r4 (some xa) r1 40 S4 = some (r5, S5) := f5
      simp only [hf4, hf5, Option.bind_some]
      refine ⟨r5, S5, _, h5, rfl, t5, ?_, ?_, Nz, ?_, ?_, ?_, by rw [m5, m4, m3, m2, m1], by simp only [List.length_append, List.length_cons, List.length_nil]; omega⟩
      · refine (nrm_app _ _ _).mpr ⟨nl'.1, by show 0 < xz + yz; omega, nl'.2.2.1, ?_⟩
        have e : xs + (xz + yz) - 1 = ys + yz - 1 := by omega
        show nrm (some (xs + (xz + yz) - 1, xt)) xr
        rw [e, c2]
        exact nr.2.2
      · rw [chs_app, chs_app]
        show _ ++ (run xs (xz + yz) xt ++ chs xr) = _ ++ (run xs xz xt ++ []) ++ (run ys yz yt ++ chs xr)
        rw [← run_app, c1, c2]; simp
      · intro a ha
        rw [ads_app, ads_cons] at ha
        rw [ads_app, ads_app, ads_cons]
        simp only [List.mem_append, List.mem_cons, ads_cons, ads_nil] at ha ⊢
        rcases ha with g | g | g
        · exact .inl (.inl g)
        · exact .inl (.inr (.inl g))
        · exact .inr (.inr g)
      · refine hs3.kept (by rw [m5, m4]) fun b hb => ?_
        have hb' : b ∉ ads (xl' ++ (xa, xs, xz + yz, xt) :: xr) := fun g => hb (.inr g)
        rw [fr5 b hb', fr4 b (nin hb').1]
      · intro b hb
        have hb' : b ∉ ads (xl' ++ [(xa, xs, xz, xt)] ++ (ya, ys, yz, yt) :: xr) := fun g => hF b g hb
        rw [asc1 xl' [] xr] at hb'
        have u1 := nin hb'
        have u2 := nin (xl := []) u1.2.2
        have u3 : b ≠ T := fun g => hs.1 (.inl (by rw [← g]; exact hb))
        have u4 : b ∉ ads (xl' ++ (xa, xs, xz + yz, xt) :: xr) := by
          rw [ads_app, ads_cons, List.mem_append, List.mem_cons]
          rintro (g | g | g)
          · exact u1.1 g
          · exact u1.2.1 g
          · exact u2.2.2 g
        rw [fr5 b u4, fr4 b u1.1, fr3 b u2.2.1 u3, sx b u1.2.1, fr1 b u2.2.2]
    · have e1 : ∀ (A B : Option (Option Nat × xS)), (if xs + xz = ys then (if xt = yt then A else B) else B) = B := by
        intro A B
        by_cases c1 : xs + xz = ys
        · rw [if_pos c1]
          by_cases c2 : xt = yt
          · exact absurd ⟨c1, c2⟩ c
          · rw [if_neg c2]
        · rw [if_neg c1]
      rw [e1]
      simp only [b_T_meet_84]
      obtain ⟨r4, S4, h4, f4, t4, m4, fr4, _, _⟩ := t_wol 40 (S := S) (d := d) tl (fun b hb => rfl) (fun s' z' t' l' q' i' j' k' e => ⟨_, _, _, _, _, _, e⟩) N1 (by omega) (by have := tr_low tl (by simp only [List.length_append, List.length_cons, List.length_nil]; omega); omega) (by omega) (by omega)
      have hf4 : f_T_withoutLast d l 40 S = some (r4, S4) := f4
      have hx4 := (fr4 xa p3).trans hx
      have tq4 : tr S4.1 hr q ((ya, ys, yz, yt) :: xr) := tr_kept tq fun b hb => by
        refine fr4 b (fun g => ?_)
        rw [ads_cons] at hb
        rcases List.mem_cons.mp hb with e | e
        · simp only at e; exact nyl (by rw [← e]; exact g)
        · exact nlr b g e
      have Nz : (ads (xl' ++ (xa, xs, xz, xt) :: (ya, ys, yz, yt) :: xr)).Nodup := by simpa using N
      obtain ⟨r5, S5, h5, f5, t5, m5, fr5, _, _⟩ := t_join 40 (d := d) hx4 t4 tq4 Nz (by simp only [List.length_cons]; omega) (by have := tr_low t4 (by omega); omega) (by have := tr_low tq4 (by simp only [List.length_cons]; omega); omega) (by omega) (by omega)
      have hf5 : f_T_join d r4 (some xa) q 40 S4 = some (r5, S5) := f5
      simp only [hf4, hf5, Option.bind_some]
      have ez : xl' ++ (xa, xs, xz, xt) :: (ya, ys, yz, yt) :: xr = xl' ++ [(xa, xs, xz, xt)] ++ (ya, ys, yz, yt) :: xr := by simp
      rw [ez] at t5 Nz fr5
      refine ⟨r5, S5, _, h5, rfl, t5, ?_, chs_app _ _, Nz, fun a ha => ha, ?_, ?_, by rw [m5, m4], by simp only [List.length_append, List.length_cons, List.length_nil]; omega⟩
      · refine (nrm_app _ _ _).mpr ⟨nl, ?_⟩
        rw [hlx]
        refine ⟨zy, ?_, nr.2.2⟩
        show mq (some (xs + xz - 1, xt)) (ys, yt) = 1
        simp only [mq]
        rw [if_neg]
        rintro ⟨g1, g2⟩
        exact c ⟨by omega, g2⟩
      · refine hs.kept (by rw [m5, m4]) fun b hb => ?_
        have hb' : b ∉ ads (xl' ++ [(xa, xs, xz, xt)] ++ (ya, ys, yz, yt) :: xr) := fun g => hb (.inr g)
        have hb2 := hb'
        rw [asc1 xl' [] xr] at hb2
        rw [fr5 b hb', fr4 b (nin hb2).1]
      · intro b hb
        have hb' : b ∉ ads (xl' ++ [(xa, xs, xz, xt)] ++ (ya, ys, yz, yt) :: xr) := fun g => hF b g hb
        have hb2 := hb'
        rw [asc1 xl' [] xr] at hb2
        rw [fr5 b hb', fr4 b (nin hb2).1]
