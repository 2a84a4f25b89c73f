/-! JOINING TREES; TREES WITHOUT THEIR FIRST OR LAST NODE -/
theorem nup {xl xr : List nd} {x : nd} (h : (ads (xl ++ x :: xr)).Nodup) : (ads xl).Nodup ∧ (ads xr).Nodup ∧ x.1 ∉ ads xl ∧ x.1 ∉ ads xr ∧ ∀ e ∈ ads xl, e ∉ ads xr := by
  rw [ads_app, ads_cons, List.nodup_append, List.nodup_cons] at h
  obtain ⟨h1, ⟨h2, h3⟩, h4⟩ := h
  exact ⟨h1, h3, fun e => h4 _ e _ (by simp) rfl, h2, fun e he g => h4 e he e (by simp [g]) rfl⟩
theorem nin {xl xr : List nd} {x : nd} {e : Nat} (h : e ∉ ads (xl ++ x :: xr)) : e ∉ ads xl ∧ e ≠ x.1 ∧ e ∉ ads xr := by
  rw [ads_app, ads_cons, List.mem_append, List.mem_cons] at h
  exact ⟨fun g => h (.inl g), fun g => h (.inr (.inl g)), fun g => h (.inr (.inr g))⟩
theorem asc1 (A B C : List nd) (x y : nd) : A ++ x :: B ++ y :: C = A ++ x :: (B ++ y :: C) := by simp
theorem t_join0 {S : xS} {m s z : Nat} {t i j k : Int32} {l0 q0 l q : Option Nat} {hl hr d : Nat} {xl xr : List nd} (fr : Option Nat → Option Nat → Option Nat → Int32 → xS → Option (Option Nat × xS)) (hm : S.1 m = some (pcell (nI s) (nI z) t l0 q0 i j k)) (tl : tr S.1 hl l xl) (tq : tr S.1 hr q xr) (nd' : (ads (xl ++ (m, s, z, t) :: xr)).Nodup) (h1 : hl ≤ hr + 1) (h2 : hr ≤ hl + 1) (b1 : hl ≤ 40) (b2 : hr ≤ 40) (hd : 0 < d) :
    ∃ S', b_T_join_81 d fr l (some m) q S = some (some m, S') ∧ tr S'.1 (max hl hr + 1) (some m) (xl ++ (m, s, z, t) :: xr) ∧ S'.2 = S.2 ∧ ∀ b, b ≠ m → S'.1 b = S.1 b := by
  have na : m ∉ ads xl ∧ m ∉ ads xr := ⟨(nup nd').2.2.1, (nup nd').2.2.2.1⟩
  have hs := t_sum (xset_at S m (pcell (nI s) (nI z) t l q i j k)) (nod_ne (tr_nod tl) (tr_root tl na.1) _) (nod_ne (tr_nod tq) (tr_root tq na.2) _) (by omega) (by omega) (d := d) hd
  simp only [b_T_join_81, pP3 hm, pP4 (xset_at _ _ _), Option.bind_some, hs, xset_two]
  refine ⟨_, rfl, tr_node (xset_at _ _ _) h1 h2 (tr_kept tl fun b hb => xset_ne _ (fun e => na.1 (e ▸ hb))) (tr_kept tq fun b hb => xset_ne _ (fun e => na.2 (e ▸ hb))), rfl, fun b hb => xset_ne _ hb⟩
theorem t_join (v : Nat) : ∀ {S : xS} {m s z : Nat} {t i j k : Int32} {l0 q0 l q : Option Nat} {hl hr d : Nat} {xl xr : List nd}, S.1 m = some (pcell (nI s) (nI z) t l0 q0 i j k) → tr S.1 hl l xl → tr S.1 hr q xr → (ads (xl ++ (m, s, z, t) :: xr)).Nodup → xl.length + xr.length < 2000 → hl ≤ v → hr ≤ v → v ≤ 40 → v + 3 < d →
    ∃ (r' : Option Nat) (S' : xS) (h' : Nat), f_T_join d l (some m) q (nI v) S = some (r', S') ∧ tr S'.1 h' r' (xl ++ (m, s, z, t) :: xr) ∧ S'.2 = S.2 ∧ (∀ b, b ∉ ads (xl ++ (m, s, z, t) :: xr) → S'.1 b = S.1 b) ∧ max hl hr ≤ h' ∧ h' ≤ max hl hr + 1 := by
  induction v with
  | zero =>
    intro S m s z t i j k l0 q0 l q hl hr d xl xr hm tl tq nd' hb b1 b2 _ hd
    obtain ⟨d, rfl⟩ : ∃ e, d = e + 1 := ⟨d - 1, by omega⟩
    obtain ⟨S', f', t', m', fr'⟩ := t_join0 (d := d) (f_T_join d) hm tl tq nd' (by omega) (by omega) (by omega) (by omega) (by omega)
    refine ⟨some m, S', _, ?_, t', m', fun b hb => fr' b (nin hb).2.1, by omega, by omega⟩
    show e_T_join d (f_T_join d) l (some m) q (nI 0) S = _
    rcases tr_top tl with ⟨rfl, _, rfl⟩ | ⟨_, _, _, _, _, _, _, g, _⟩
    · rcases tr_top tq with ⟨rfl, _, rfl⟩ | ⟨_, _, _, _, _, _, _, g, _⟩
      · simp only [e_T_join, b_T_join_46, r_height tl (d := d) (by omega), r_height tq (d := d) (by omega), Option.bind_some, xcase_none]
        exact f'
      · rcases tr_inv tq with ⟨_, _, rfl⟩ | ⟨_, _, _, _, _, _, _, _, _, _, g1, _⟩
        · cases g
        · omega
    · rcases tr_inv tl with ⟨_, _, rfl⟩ | ⟨_, _, _, _, _, _, _, _, _, _, g1, _⟩
      · cases g
      · omega
  | succ v ih =>
    intro S m s z t i j k l0 q0 l q hl hr d xl xr hm tl tq nd' hb b1 b2 b3 hd
    obtain ⟨d, rfl⟩ : ∃ e, d = e + 1 := ⟨d - 1, by omega⟩
    show ∃ r' S' h', e_T_join d (f_T_join d) l (some m) q (nI (v + 1)) S = some (r', S') ∧ _
    simp only [e_T_join, b_T_join_46, r_height tl (d := d) (by omega), r_height tq (d := d) (by omega), Option.bind_some]
    rw [tilt1 (by omega) (by omega), tilt2 (by omega) (by omega), nI_pred]
    by_cases c1 : hl ≤ hr + 1
    · rw [if_pos c1]
      have e1 : ∀ (A : Option (Option Nat × xS)), xcase l A (fun _ => A) = A := by intro A; cases l <;> rfl
      rw [e1]
      by_cases c2 : hr ≤ hl + 1
      · rw [if_pos c2]
        have e2 : ∀ (A : Option (Option Nat × xS)), xcase q A (fun _ => A) = A := by intro A; cases q <;> rfl
        rw [e2]
        obtain ⟨S', f', t', m', fr'⟩ := t_join0 (d := d) (f_T_join d) hm tl tq nd' (by omega) (by omega) (by omega) (by omega) (by omega)
        exact ⟨some m, S', _, f', t', m', fun b hb => fr' b (nin hb).2.1, by omega, by omega⟩
      · rw [if_neg c2]
        simp only [if_neg (nI_nle (n := v + 1) (by omega) (by omega))]
        rcases tr_inv tq with ⟨g, _⟩ | ⟨b, sb, zb, tb, ql, qr, hql, hqr, xql, xqr, g1, rfl, rfl, hbc, g2, g3, tql, tqr⟩
        · omega
        simp only [List.length_append, List.length_cons] at hb
        rw [← asc1] at nd'
        obtain ⟨nx1, nx4, nx2, nx5, nx6⟩ := nup nd'
        have nx3 : ∀ e ∈ ads xqr, e ∉ ads (xl ++ (m, s, z, t) :: xql) := fun e he g => nx6 e g he
        obtain ⟨r1, S1, h', f1, t1, m1, fr1, y1, y2⟩ := ih (d := d) hm tl tql nx1 (by omega) (by omega) (by omega) (by omega) (by omega)
        have hb1 := (fr1 b nx2).trans hbc
        simp only [xcase_some, gR3 hbc, Option.bind_some, f1, pP3 hb1]
        have tq2 := tr_kept (H' := (xset S1 b (pcell (nI sb) (nI zb) tb r1 qr (nI (max hql hqr + 1)) (nI (xql.length + xqr.length + 1)) (nI (tot xql + tot xqr + zb)))).1) tqr fun e he => by
          rw [xset_ne _ (fun g => nx5 (by rw [← g]; exact he)), fr1 e (nx3 e he)]
        obtain ⟨r2, S2, h2, f2, t2, m2, fr2, y3, y4, y5⟩ := t_balance (d := d) (xset_at _ _ _) (tr_kept t1 fun e he => xset_ne _ (fun g => nx2 (by rw [← g]; exact he))) tq2 (by omega) (by omega) nd' (by simp only [List.length_append, List.length_cons]; omega) (by omega) (by omega)
        simp only [f2, Option.bind_some]
        rw [← asc1]
        refine ⟨r2, S2, h2, rfl, t2, by rw [m2, xset_2, m1], fun e he => ?_, by omega, by omega⟩
        rw [fr2 e he, xset_ne _ (nin he).2.1, fr1 e (nin he).1]
    · rw [if_neg c1]
      simp only [if_neg (nI_nle (n := v + 1) (by omega) (by omega))]
      rcases tr_inv tl with ⟨g, _⟩ | ⟨b, sb, zb, tb, ll, lr, hll, hlr, xll, xlr, g1, rfl, rfl, hbc, g2, g3, tll, tlr⟩
      · omega
      simp only [List.length_append, List.length_cons] at hb
      rw [asc1] at nd'
      obtain ⟨nx4, nx1, nx5, nx2, nx3⟩ := nup nd'
      obtain ⟨r1, S1, h', f1, t1, m1, fr1, y1, y2⟩ := ih (d := d) hm tlr tq nx1 (by omega) (by omega) (by omega) (by omega) (by omega)
      have hb1 := (fr1 b nx2).trans hbc
      simp only [xcase_some, gR4 hbc, Option.bind_some, f1, pP4 hb1]
      have tq2 := tr_kept (H' := (xset S1 b (pcell (nI sb) (nI zb) tb ll r1 (nI (max hll hlr + 1)) (nI (xll.length + xlr.length + 1)) (nI (tot xll + tot xlr + zb)))).1) tll fun e he => by
        rw [xset_ne _ (fun g => nx5 (by rw [← g]; exact he)), fr1 e (nx3 e he)]
      obtain ⟨r2, S2, h2, f2, t2, m2, fr2, y3, y4, y5⟩ := t_balance (d := d) (xset_at _ _ _) tq2 (tr_kept t1 fun e he => xset_ne _ (fun g => nx2 (by rw [← g]; exact he))) (by omega) (by omega) nd' (by omega) (by simp only [List.length_append, List.length_cons]; omega) (by omega)
      simp only [f2, Option.bind_some]
      rw [asc1]
      refine ⟨r2, S2, h2, rfl, t2, by rw [m2, xset_2, m1], fun e he => ?_, by omega, by omega⟩
      rw [fr2 e he, xset_ne _ (nin he).2.1, fr1 e (nin he).2.2]
