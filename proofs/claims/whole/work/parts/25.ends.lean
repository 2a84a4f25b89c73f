/-! A TREE'S FIRST AND LAST NODE, AND THE TREE WITHOUT IT -/
theorem t_first0 {S : xS} {d : Nat} {h : Nat} {r : Option Nat} {xs : List nd} (T : tr S.1 h r xs) : ∀ (n : Nat) (o : Option Nat), h < n → l_T_firstOf_4 d n o r S = some ((xs.head?.map fun x => x.1).or o, S) := by
  refine tr_ind (H := S.1) (fun h r xs => ∀ (n : Nat) (o : Option Nat), h < n → l_T_firstOf_4 d n o r S = some ((xs.head?.map fun x => x.1).or o, S)) ?_ ?_ T
  · intro n o hn
    obtain ⟨n, rfl⟩ : ∃ e, n = e + 1 := ⟨n - 1, by omega⟩
    rfl
  · intro a s z t l q hl hr xl xr ha h1 h2 tl tq il iq n o hn
    obtain ⟨n, rfl⟩ : ∃ e, n = e + 1 := ⟨n - 1, by omega⟩
    show b_T_firstOf_4 d (l_T_firstOf_4 d n) o (some a) S = _
    simp only [b_T_firstOf_4, xcase_some, gR3 ha, Option.bind_some]
    rw [il n _ (by omega)]
    cases xl <;> rfl
theorem t_first {S : xS} {h : Nat} {r : Option Nat} {xs : List nd} (T : tr S.1 h r xs) (hl : xs.length ≤ 2000) {d : Nat} (hd : 0 < d) : f_T_firstOf d r S = some (xs.head?.map fun x => x.1, S) := by
  obtain ⟨d, rfl⟩ : ∃ e, d = e + 1 := ⟨d - 1, by omega⟩
  have h1 := tr_low T hl
  have := t_first0 (d := d) T xN none (by unfold xN; omega)
  rw [Option.or_none] at this
  exact this
theorem t_last0 {S : xS} {d : Nat} {h : Nat} {r : Option Nat} {xs : List nd} (T : tr S.1 h r xs) : ∀ (n : Nat) (o : Option Nat), h < n → l_T_lastOf_4 d n o r S = some ((xs.getLast?.map fun x => x.1).or o, S) := by
  refine tr_ind (H := S.1) (fun h r xs => ∀ (n : Nat) (o : Option Nat), h < n → l_T_lastOf_4 d n o r S = some ((xs.getLast?.map fun x => x.1).or o, S)) ?_ ?_ T
  · intro n o hn
    obtain ⟨n, rfl⟩ : ∃ e, n = e + 1 := ⟨n - 1, by omega⟩
    rfl
  · intro a s z t l q hl hr xl xr ha h1 h2 tl tq il iq n o hn
    obtain ⟨n, rfl⟩ : ∃ e, n = e + 1 := ⟨n - 1, by omega⟩
    show b_T_lastOf_4 d (l_T_lastOf_4 d n) o (some a) S = _
    simp only [b_T_lastOf_4, xcase_some, gR4 ha, Option.bind_some]
    rw [iq n _ (by omega), List.getLast?_append, List.getLast?_cons]
    cases hx : xr.getLast? <;> rfl
theorem t_last {S : xS} {h : Nat} {r : Option Nat} {xs : List nd} (T : tr S.1 h r xs) (hl : xs.length ≤ 2000) {d : Nat} (hd : 0 < d) : f_T_lastOf d r S = some (xs.getLast?.map fun x => x.1, S) := by
  obtain ⟨d, rfl⟩ : ∃ e, d = e + 1 := ⟨d - 1, by omega⟩
  have h1 := tr_low T hl
  have := t_last0 (d := d) T xN none (by unfold xN; omega)
  rw [Option.or_none] at this
  exact this
theorem tr_zero {H : Nat → Option xO} {r : Option Nat} {xs : List nd} (T : tr H 0 r xs) : r = none ∧ xs = [] := by
  rcases tr_inv T with ⟨_, h2, h3⟩ | ⟨_, _, _, _, _, _, _, _, _, _, g, _⟩
  · exact ⟨h2, h3⟩
  · omega
theorem t_wof (v : Nat) : ∀ {S : xS} {r : Option Nat} {h d : Nat} {x : nd} {xs : List nd}, tr S.1 h r (x :: xs) → (ads (x :: xs)).Nodup → xs.length < 2000 → h ≤ v → v ≤ 40 → v + 3 < d →
    ∃ (r' : Option Nat) (S' : xS) (h' : Nat), f_T_withoutFirst d r (nI v) S = some (r', S') ∧ tr S'.1 h' r' xs ∧ S'.2 = S.2 ∧ (∀ b, b ∉ ads xs → S'.1 b = S.1 b) ∧ h' ≤ h ∧ h ≤ h' + 1 := by
  induction v with
  | zero =>
    intro S r h d x xs T _ _ hv _ _
    have : h = 0 := by omega
    subst this
    cases (tr_zero T).2
  | succ v ih =>
    intro S r h d x xs T N hl hv hv' hd
    obtain ⟨d, rfl⟩ : ∃ e, d = e + 1 := ⟨d - 1, by omega⟩
    rcases tr_inv T with ⟨_, _, g⟩ | ⟨a, s, z, t, l, q, h1, h2, xl, xr, rfl, rfl, ex, ha, g1, g2, tl, tq⟩
    · cases g
    show ∃ r' S' h', e_T_withoutFirst d (f_T_withoutFirst d) (some a) (nI (v + 1)) S = some (r', S') ∧ _
    have c0 : (1 : Int32) ≤ nI (v + 1) := nI_le (a := 1) (by omega) (by omega)
    simp only [e_T_withoutFirst, xcase_some, if_pos c0, gR3 ha, gR4 ha, Option.bind_some, nI_pred]
    cases xl with
    | nil =>
      have el : l = none := by
        rcases tr_top tl with ⟨e, _⟩ | ⟨_, _, _, _, _, _, _, e, _⟩
        · exact e
        · cases e
      subst el
      cases ex
      have eh := (tr_none tl).1
      simp only [xcase_none]
      exact ⟨q, S, h2, rfl, tq, rfl, fun b _ => rfl, by omega, by omega⟩
    | cons y xl =>
      rw [List.cons_append] at ex
      obtain ⟨rfl, rfl⟩ := List.cons.inj ex
      have el : ∃ w, l = some w := by
        rcases tr_top tl with ⟨_, _, e⟩ | ⟨w, _, _, _, _, _, e, _⟩
        · cases e
        · exact ⟨w, e⟩
      obtain ⟨w, rfl⟩ := el
      simp only [List.length_append, List.length_cons] at hl
      obtain ⟨n1, n2, n3, n4, n5⟩ := nup (xl := x :: xl) N
      obtain ⟨n6, n7⟩ := List.nodup_cons.mp N
      obtain ⟨r1, S1, h', f1, t1, m1, fr1, y1, y2⟩ := ih (d := d) tl n1 (by omega) (by omega) (by omega) (by omega)
      obtain ⟨p1, p2, p3, p4, p5⟩ := nup (xl := xl) n7
      have ha1 := (fr1 a p3).trans ha
      simp only [xcase_some, f1, Option.bind_some, pP3 ha1]
      obtain ⟨r2, S2, h3, f2, t2, m2, fr2, y3, y4, y5⟩ := t_balance (d := d) (xset_at _ _ _) (tr_kept t1 fun e he => xset_ne _ (fun g => p3 (by rw [← g]; exact he))) (tr_kept (H' := (xset S1 a (pcell (nI s) (nI z) t r1 q (nI (max h1 h2 + 1)) (nI ((x :: xl).length + xr.length + 1)) (nI (tot (x :: xl) + tot xr + z)))).1) tq fun e he => by rw [xset_ne _ (fun g => p4 (by rw [← g]; exact he)), fr1 e (fun g => p5 e g he)]) (by omega) (by omega) n7 (by omega) (by omega) (by omega)
      simp only [f2, Option.bind_some]
      exact ⟨r2, S2, h3, rfl, t2, by rw [m2, xset_2, m1], fun e he => by rw [fr2 e he, xset_ne _ (nin he).2.1, fr1 e (nin he).1], by omega, by omega⟩
theorem t_wol (v : Nat) : ∀ {H : Nat → Option xO} {S : xS} {r : Option Nat} {h d : Nat} {x : nd} {xs : List nd}, tr H h r (xs ++ [x]) → (∀ b ∈ ads xs, S.1 b = H b) → (∀ (s z t : Int32) (l q : Option Nat) (i j k : Int32), H x.1 = some (pcell s z t l q i j k) → ∃ (s' z' t' i' j' k' : Int32), S.1 x.1 = some (pcell s' z' t' l q i' j' k')) → (ads (xs ++ [x])).Nodup → xs.length < 2000 → h ≤ v → v ≤ 40 → v + 3 < d →
    ∃ (r' : Option Nat) (S' : xS) (h' : Nat), f_T_withoutLast d r (nI v) S = some (r', S') ∧ tr S'.1 h' r' xs ∧ S'.2 = S.2 ∧ (∀ b, b ∉ ads xs → S'.1 b = S.1 b) ∧ h' ≤ h ∧ h ≤ h' + 1 := by
  induction v with
  | zero =>
    intro H S r h d x xs T _ _ _ _ hv _ _
    have : h = 0 := by omega
    subst this
    exact absurd (tr_zero T).2 (by simp)
  | succ v ih =>
    intro H S r h d x xs T K1 K2 N hl hv hv' hd
    obtain ⟨d, rfl⟩ : ∃ e, d = e + 1 := ⟨d - 1, by omega⟩
    rcases tr_inv T with ⟨_, _, g⟩ | ⟨a, s, z, t, l, q, h1, h2, xl, xr, rfl, rfl, ex, ha, g1, g2, tl, tq⟩
    · exact absurd g (by simp)
    show ∃ r' S' h', e_T_withoutLast d (f_T_withoutLast d) (some a) (nI (v + 1)) S = some (r', S') ∧ _
    have c0 : (1 : Int32) ≤ nI (v + 1) := nI_le (a := 1) (by omega) (by omega)
    simp only [e_T_withoutLast, xcase_some, if_pos c0, nI_pred]
    rcases List.eq_nil_or_concat xr with rfl | ⟨xr', y, rfl⟩
    · have el : q = none := by
        rcases tr_top tq with ⟨e, _⟩ | ⟨_, _, _, _, _, _, _, e, _⟩
        · exact e
        · cases e
      subst el
      obtain ⟨rfl, e2⟩ := List.append_inj' ex rfl
      cases e2
      have eh := (tr_none tq).1
      obtain ⟨s', z', t', i', j', k', hx⟩ := K2 _ _ _ _ _ _ _ _ ha
      simp only [gR3 hx, gR4 hx, Option.bind_some, xcase_none]
      exact ⟨l, S, h1, rfl, tr_kept tl K1, rfl, fun b _ => rfl, by omega, by omega⟩
    · have ex' : xs ++ [x] = (xl ++ (a, s, z, t) :: xr') ++ [y] := by rw [ex]; simp
      obtain ⟨rfl, e2⟩ := List.append_inj' ex' rfl
      cases e2
      have el : ∃ w, q = some w := by
        rcases tr_top tq with ⟨_, _, e⟩ | ⟨w, _, _, _, _, _, e, _⟩
        · exact absurd e (by simp)
        · exact ⟨w, e⟩
      obtain ⟨w, rfl⟩ := el
      simp only [List.length_append, List.length_cons] at hl
      have N2 : (ads (xl ++ (a, s, z, t) :: (xr' ++ [x]))).Nodup := by simpa using N
      obtain ⟨n1, n2, n3, n4, n5⟩ := nup N2
      have n7 : (ads (xl ++ (a, s, z, t) :: xr')).Nodup := by
        rw [ads_app, List.nodup_append] at N; exact N.1
      simp only [List.concat_eq_append] at tq ha
      have haS := (K1 a (by simp [ads])).trans ha
      have K3 : ∀ b ∈ ads xr', S.1 b = H b := fun b hb => K1 b (by rw [ads_app, ads_cons]; simp [hb])
      have K4 : ∀ b ∈ ads xl, S.1 b = H b := fun b hb => K1 b (by rw [ads_app, ads_cons]; simp [hb])
      simp only [gR3 haS, gR4 haS, Option.bind_some]
      obtain ⟨r1, S1, h', f1, t1, m1, fr1, y1, y2⟩ := ih (d := d) tq K3 K2 n2 (by omega) (by omega) (by omega) (by omega)
      obtain ⟨p1, p2, p3, p4, p5⟩ := nup n7
      have ha1 := (fr1 a p4).trans haS
      simp only [xcase_some, f1, Option.bind_some, pP4 ha1]
      obtain ⟨r2, S2, h3, f2, t2, m2, fr2, y3, y4, y5⟩ := t_balance (d := d) (xset_at _ _ _) (tr_kept (H' := (xset S1 a (pcell (nI s) (nI z) t l r1 (nI (max h1 h2 + 1)) (nI (xl.length + (xr' ++ [x]).length + 1)) (nI (tot xl + tot (xr' ++ [x]) + z)))).1) tl fun e he => by rw [xset_ne _ (fun g => p3 (by rw [← g]; exact he)), fr1 e (p5 e he), K4 e he]) (tr_kept t1 fun e he => xset_ne _ (fun g => p4 (by rw [← g]; exact he))) (by omega) (by omega) n7 (by omega) (by omega) (by omega)
      simp only [f2, Option.bind_some]
      exact ⟨r2, S2, h3, rfl, t2, by rw [m2, xset_2, m1], fun e he => by rw [fr2 e he, xset_ne _ (nin he).2.1, fr1 e (nin he).2.2], by omega, by omega⟩
