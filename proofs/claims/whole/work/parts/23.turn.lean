/-! SUMS AND TURNS -/
def nod (S : xS) (r : Option Nat) (h n c : Nat) : Prop := (r = none ∧ h = 0 ∧ n = 0 ∧ c = 0) ∨ ∃ (a : Nat) (s z t : Int32) (l q : Option Nat), r = some a ∧ S.1 a = some (pcell s z t l q (nI h) (nI n) (nI c))
theorem tr_nod {S : xS} {h : Nat} {r : Option Nat} {xs : List nd} (T : tr S.1 h r xs) : nod S r h xs.length (tot xs) := by
  rcases tr_top T with ⟨rfl, rfl, rfl⟩ | ⟨a, s, z, t, l, q, rfl, _, ha⟩
  · exact .inl ⟨rfl, rfl, rfl, rfl⟩
  · exact .inr ⟨a, s, z, t, l, q, rfl, ha⟩
theorem nod_kept {S S' : xS} {r : Option Nat} {h n c : Nat} (N : nod S r h n c) (hk : ∀ a, r = some a → S'.1 a = S.1 a) : nod S' r h n c := by
  rcases N with e | ⟨a, s, z, t, l, q, e, ha⟩
  · exact .inl e
  · exact .inr ⟨a, s, z, t, l, q, e, by rw [hk a e, ha]⟩
theorem nod_ne {S : xS} {r : Option Nat} {h n c a : Nat} (N : nod S r h n c) (hk : r ≠ some a) (o : xO) : nod (xset S a o) r h n c :=
  nod_kept N fun b hb => xset_ne o (fun e => hk (by rw [hb, e]))
theorem pc_congr {S : xS} {a : Nat} {s z t : Int32} {l q : Option Nat} {h p c h' p' c' : Int32} (e1 : h = h') (e2 : p = p') (e3 : c = c') : some (((), xset S a (pcell s z t l q h p c)) : Unit × xS) = some ((), xset S a (pcell s z t l q h' p' c')) := by
  rw [e1, e2, e3]
theorem t_sum {S : xS} {a z : Nat} {s t i j k : Int32} {l q : Option Nat} {hl hr n1 n2 c1 c2 d : Nat} (ha : S.1 a = some (pcell s (nI z) t l q i j k)) (nl : nod S l hl n1 c1) (nq : nod S q hr n2 c2) (b1 : hl < 2 ^ 31) (b2 : hr < 2 ^ 31) (hd : 0 < d) : f_T_sum d (some a) S = some ((), xset S a (pcell s (nI z) t l q (nI (max hl hr + 1)) (nI (n1 + n2 + 1)) (nI (c1 + c2 + z)))) := by
  obtain ⟨d, rfl⟩ : ∃ e, d = e + 1 := ⟨d - 1, by omega⟩
  show e_T_sum d (some a) S = _
  have z0 : (0 : Int32) = nI 0 := rfl
  have z1 : (1 : Int32) = nI 1 := rfl
  rcases nl with ⟨rfl, rfl, rfl, rfl⟩ | ⟨u, s1, z1', t1, l1, q1, rfl, hu⟩
  · rcases nq with ⟨rfl, rfl, rfl, rfl⟩ | ⟨v, s2, z2, t2, l2, q2, rfl, hv⟩
    · simp only [e_T_sum, b_T_sum_42, b_T_sum_79, gI1 ha, gR3 ha, gR4 ha, xcase_none, Option.bind_some, pP5 ha, pP6 (xset_at _ _ _), pP7 (xset_at _ _ _), xset_two]
      exact pc_congr rfl rfl (by congr 1; omega)
    · simp only [e_T_sum, b_T_sum_42, b_T_sum_79, gI1 ha, gR3 ha, gR4 ha, gI5 hv, gI6 hv, gI7 hv, xcase_none, xcase_some, Option.bind_some, pP5 ha, pP6 (xset_at _ _ _), pP7 (xset_at _ _ _), xset_two]
      refine pc_congr ?_ ?_ ?_
      · rw [z0, xmax_nI (by omega) b2, nI_1]
      · rw [z1, nI_add]; congr 1; omega
      · rw [nI_add]; congr 1; omega
  · rcases nq with ⟨rfl, rfl, rfl, rfl⟩ | ⟨v, s2, z2, t2, l2, q2, rfl, hv⟩
    · simp only [e_T_sum, b_T_sum_42, b_T_sum_79, gI1 ha, gR3 ha, gR4 ha, gI5 hu, gI6 hu, gI7 hu, xcase_none, xcase_some, Option.bind_some, pP5 ha, pP6 (xset_at _ _ _), pP7 (xset_at _ _ _), xset_two]
      refine pc_congr ?_ ?_ ?_
      · rw [nI_1, Nat.max_eq_left (Nat.zero_le _)]
      · rw [z1, nI_add]; congr 1; omega
      · rw [nI_add]; congr 1; omega
    · simp only [e_T_sum, b_T_sum_42, b_T_sum_79, gI1 ha, gR3 ha, gR4 ha, gI5 hu, gI6 hu, gI7 hu, gI5 hv, gI6 hv, gI7 hv, xcase_none, xcase_some, Option.bind_some, pP5 ha, pP6 (xset_at _ _ _), pP7 (xset_at _ _ _), xset_two]
      refine pc_congr ?_ ?_ ?_
      · rw [xmax_nI b1 b2, nI_1]
      · rw [z1, nI_add, nI_add]; congr 1; omega
      · rw [nI_add, nI_add]; congr 1; omega
theorem t_raiseL {S : xS} {p a z z' : Nat} {s t s' t' i j k i' j' k' : Int32} {ll lr q : Option Nat} {h1 h2 h3 n1 n2 n3 c1 c2 c3 d : Nat} (hp : S.1 p = some (pcell s (nI z) t (some a) q i j k)) (ha : S.1 a = some (pcell s' (nI z') t' ll lr i' j' k')) (hne : a ≠ p)
    (n1' : nod S ll h1 n1 c1) (n2' : nod S lr h2 n2 c2) (n3' : nod S q h3 n3 c3) (x1 : ll ≠ some p) (x2 : lr ≠ some p) (x3 : q ≠ some p) (y1 : ll ≠ some a) (y2 : lr ≠ some a) (y3 : q ≠ some a) (b1 : h1 < 2 ^ 30) (b2 : h2 < 2 ^ 30) (b3 : h3 < 2 ^ 30) (hd : 1 < d) :
    ∃ S', f_T_raiseLeft d (some p) S = some (some a, S') ∧ S'.2 = S.2 ∧ S'.1 p = some (pcell s (nI z) t lr q (nI (max h2 h3 + 1)) (nI (n2 + n3 + 1)) (nI (c2 + c3 + z))) ∧ S'.1 a = some (pcell s' (nI z') t' ll (some p) (nI (max h1 (max h2 h3 + 1) + 1)) (nI (n1 + (n2 + n3 + 1) + 1)) (nI (c1 + (c2 + c3 + z) + z'))) ∧ ∀ b, b ≠ p → b ≠ a → S'.1 b = S.1 b := by
  obtain ⟨d, rfl⟩ : ∃ e, d = e + 1 := ⟨d - 1, by omega⟩
  have ha4 : (xset S p (pcell s (nI z) t lr q i j k)).1 a = some (pcell s' (nI z') t' ll lr i' j' k') := by rw [xset_ne _ hne, ha]
  have hp5 : (xset (xset S p (pcell s (nI z) t lr q i j k)) a (pcell s' (nI z') t' ll (some p) i' j' k')).1 p = some (pcell s (nI z) t lr q i j k) := by rw [xset_ne _ (Ne.symm hne), xset_at]
  have hs1 := t_sum hp5 (nod_ne (nod_ne n2' x2 _) y2 _) (nod_ne (nod_ne n3' x3 _) y3 _) (by omega) (by omega) (d := d) (by omega)
  refine ⟨xset (xset (xset (xset S p (pcell s (nI z) t lr q i j k)) a (pcell s' (nI z') t' ll (some p) i' j' k')) p (pcell s (nI z) t lr q (nI (max h2 h3 + 1)) (nI (n2 + n3 + 1)) (nI (c2 + c3 + z)))) a (pcell s' (nI z') t' ll (some p) (nI (max h1 (max h2 h3 + 1) + 1)) (nI (n1 + (n2 + n3 + 1) + 1)) (nI (c1 + (c2 + c3 + z) + z'))), ?_, rfl, by rw [xset_ne _ (Ne.symm hne), xset_at], by rw [xset_at], fun b g1 g2 => by rw [xset_ne _ g2, xset_ne _ g1, xset_ne _ g2, xset_ne _ g1]⟩
  · show e_T_raiseLeft d (some p) S = _
    have ha6 : (xset (xset (xset S p (pcell s (nI z) t lr q i j k)) a (pcell s' (nI z') t' ll (some p) i' j' k')) p (pcell s (nI z) t lr q (nI (max h2 h3 + 1)) (nI (n2 + n3 + 1)) (nI (c2 + c3 + z)))).1 a = some (pcell s' (nI z') t' ll (some p) i' j' k') := by rw [xset_ne _ hne, xset_at]
    have hs2 := t_sum ha6 (nod_ne (nod_ne (nod_ne n1' x1 _) y1 _) x1 _) (hr := max h2 h3 + 1) (n2 := n2 + n3 + 1) (c2 := c2 + c3 + z) (.inr ⟨p, s, nI z, t, lr, q, rfl, xset_at _ _ _⟩) (by omega) (by omega) (d := d) (by omega)
    simp only [e_T_raiseLeft, gR3 hp, gR4 ha, xcase_some, Option.bind_some, pP3 hp, pP4 ha4, hs1, hs2]
theorem t_raiseR {S : xS} {p a z z' : Nat} {s t s' t' i j k i' j' k' : Int32} {l rl rr : Option Nat} {h1 h2 h3 n1 n2 n3 c1 c2 c3 d : Nat} (hp : S.1 p = some (pcell s (nI z) t l (some a) i j k)) (ha : S.1 a = some (pcell s' (nI z') t' rl rr i' j' k')) (hne : a ≠ p)
    (n1' : nod S l h1 n1 c1) (n2' : nod S rl h2 n2 c2) (n3' : nod S rr h3 n3 c3) (x1 : l ≠ some p) (x2 : rl ≠ some p) (x3 : rr ≠ some p) (y1 : l ≠ some a) (y2 : rl ≠ some a) (y3 : rr ≠ some a) (b1 : h1 < 2 ^ 30) (b2 : h2 < 2 ^ 30) (b3 : h3 < 2 ^ 30) (hd : 1 < d) :
    ∃ S', f_T_raiseRight d (some p) S = some (some a, S') ∧ S'.2 = S.2 ∧ S'.1 p = some (pcell s (nI z) t l rl (nI (max h1 h2 + 1)) (nI (n1 + n2 + 1)) (nI (c1 + c2 + z))) ∧ S'.1 a = some (pcell s' (nI z') t' (some p) rr (nI (max (max h1 h2 + 1) h3 + 1)) (nI ((n1 + n2 + 1) + n3 + 1)) (nI ((c1 + c2 + z) + c3 + z'))) ∧ ∀ b, b ≠ p → b ≠ a → S'.1 b = S.1 b := by
  obtain ⟨d, rfl⟩ : ∃ e, d = e + 1 := ⟨d - 1, by omega⟩
  have ha4 : (xset S p (pcell s (nI z) t l rl i j k)).1 a = some (pcell s' (nI z') t' rl rr i' j' k') := by rw [xset_ne _ hne, ha]
  have hp5 : (xset (xset S p (pcell s (nI z) t l rl i j k)) a (pcell s' (nI z') t' (some p) rr i' j' k')).1 p = some (pcell s (nI z) t l rl i j k) := by rw [xset_ne _ (Ne.symm hne), xset_at]
  have hs1 := t_sum hp5 (nod_ne (nod_ne n1' x1 _) y1 _) (nod_ne (nod_ne n2' x2 _) y2 _) (by omega) (by omega) (d := d) (by omega)
  refine ⟨xset (xset (xset (xset S p (pcell s (nI z) t l rl i j k)) a (pcell s' (nI z') t' (some p) rr i' j' k')) p (pcell s (nI z) t l rl (nI (max h1 h2 + 1)) (nI (n1 + n2 + 1)) (nI (c1 + c2 + z)))) a (pcell s' (nI z') t' (some p) rr (nI (max (max h1 h2 + 1) h3 + 1)) (nI ((n1 + n2 + 1) + n3 + 1)) (nI ((c1 + c2 + z) + c3 + z'))), ?_, rfl, by rw [xset_ne _ (Ne.symm hne), xset_at], by rw [xset_at], fun b g1 g2 => by rw [xset_ne _ g2, xset_ne _ g1, xset_ne _ g2, xset_ne _ g1]⟩
  · show e_T_raiseRight d (some p) S = _
    have ha6 : (xset (xset (xset S p (pcell s (nI z) t l rl i j k)) a (pcell s' (nI z') t' (some p) rr i' j' k')) p (pcell s (nI z) t l rl (nI (max h1 h2 + 1)) (nI (n1 + n2 + 1)) (nI (c1 + c2 + z)))).1 a = some (pcell s' (nI z') t' (some p) rr i' j' k') := by rw [xset_ne _ hne, xset_at]
    have hs2 := t_sum ha6 (hl := max h1 h2 + 1) (n1 := n1 + n2 + 1) (c1 := c1 + c2 + z) (.inr ⟨p, s, nI z, t, l, rl, rfl, xset_at _ _ _⟩) (nod_ne (nod_ne (nod_ne n3' x3 _) y3 _) x3 _) (by omega) (by omega) (d := d) (by omega)
    simp only [e_T_raiseRight, gR4 hp, gR3 ha, xcase_some, Option.bind_some, pP4 hp, pP3 ha4, hs1, hs2]
theorem tr_root {H : Nat → Option xO} {h : Nat} {r : Option Nat} {xs : List nd} (T : tr H h r xs) {a : Nat} (ha : a ∉ ads xs) : r ≠ some a := by
  rcases tr_top T with ⟨rfl, _, _⟩ | ⟨b, s, z, t, l, q, rfl, hb, _⟩
  · intro e; cases e
  · intro e; cases e; exact ha hb
theorem tr_mk {H : Nat → Option xO} {a s z : Nat} {t i j k : Int32} {l q : Option Nat} {hl hr h : Nat} {xl xr xs : List nd} (ha : H a = some (pcell (nI s) (nI z) t l q i j k)) (tl : tr H hl l xl) (tq : tr H hr q xr) (ei : i = nI (max hl hr + 1)) (ej : j = nI (xl.length + xr.length + 1)) (ek : k = nI (tot xl + tot xr + z)) (h1 : hl ≤ hr + 1) (h2 : hr ≤ hl + 1) (eh : h = max hl hr + 1) (ex : xs = xl ++ (a, s, z, t) :: xr) : tr H h (some a) xs := by
  subst ei ej ek eh ex
  exact tr_node ha h1 h2 tl tq
theorem tilt1 {α : Type} {a b : Nat} (ha : a < 2 ^ 30) (hb : b < 2 ^ 30) (x y : α) : (if nI a - nI b ≤ 1 then x else y) = if a ≤ b + 1 then x else y := by
  have e := pk_sub_toInt ha hb
  have e1 : (1 : Int32).toInt = 1 := rfl
  by_cases c : a ≤ b + 1
  · rw [if_pos c, if_pos (by rw [Int32.le_iff_toInt_le, e, e1]; omega)]
  · rw [if_neg c, if_neg (by rw [Int32.le_iff_toInt_le, e, e1]; omega)]
theorem tilt2 {α : Type} {a b : Nat} (ha : a < 2 ^ 30) (hb : b < 2 ^ 30) (x y : α) : (if (-1) ≤ nI a - nI b then x else y) = if b ≤ a + 1 then x else y := by
  have e := pk_sub_toInt ha hb
  have e1 : (-1 : Int32).toInt = -1 := rfl
  by_cases c : b ≤ a + 1
  · rw [if_pos c, if_pos (by rw [Int32.le_iff_toInt_le, e, e1]; omega)]
  · rw [if_neg c, if_neg (by rw [Int32.le_iff_toInt_le, e, e1]; omega)]
theorem ndup5 {A B C D : List Nat} {a b c : Nat} (h : (A ++ a :: (B ++ c :: (C ++ b :: D))).Nodup) : c ≠ a ∧ c ≠ b ∧ (∀ e ∈ A, e ≠ c) ∧ (∀ e ∈ B, e ≠ a ∧ e ≠ b ∧ e ≠ c) ∧ (∀ e ∈ C, e ≠ a ∧ e ≠ b ∧ e ≠ c) ∧ (∀ e ∈ D, e ≠ c) := by
  rw [List.nodup_append, List.nodup_cons, List.nodup_append, List.nodup_cons, List.nodup_append, List.nodup_cons] at h
  simp only [List.mem_append, List.mem_cons] at h
  obtain ⟨_, ⟨h1, _, ⟨h2, _, ⟨h3, _⟩, h4⟩, h5⟩, h6⟩ := h
  refine ⟨fun e => h1 (by rw [← e]; simp), fun e => h2 (by rw [e]; simp), fun e he => h6 e he c (by simp), fun e he => ⟨fun g => h1 (by rw [← g]; simp [he]), h5 e he b (by simp), h5 e he c (by simp)⟩, fun e he => ⟨fun g => h1 (by rw [← g]; simp [he]), h4 e he b (by simp), fun g => h2 (by rw [← g]; simp [he])⟩, fun e he g => h2 (by rw [← g]; simp [he])⟩
theorem t_balance {S : xS} {a s z : Nat} {t i j k : Int32} {l q : Option Nat} {hl hr d : Nat} {xl xr : List nd} (ha : S.1 a = some (pcell (nI s) (nI z) t l q i j k)) (tl : tr S.1 hl l xl) (tq : tr S.1 hr q xr) (h1 : hl ≤ hr + 2) (h2 : hr ≤ hl + 2) (nd' : (ads (xl ++ (a, s, z, t) :: xr)).Nodup) (bl : xl.length ≤ 2000) (br : xr.length ≤ 2000) (hd : 2 < d) :
    ∃ (r' : Option Nat) (S' : xS) (h' : Nat), f_T_balance d (some a) S = some (r', S') ∧ tr S'.1 h' r' (xl ++ (a, s, z, t) :: xr) ∧ S'.2 = S.2 ∧ (∀ b, b ∉ ads (xl ++ (a, s, z, t) :: xr) → S'.1 b = S.1 b) ∧ max hl hr ≤ h' ∧ h' ≤ max hl hr + 1 ∧ (hl ≤ hr + 1 → hr ≤ hl + 1 → h' = max hl hr + 1) := by
  obtain ⟨d, rfl⟩ : ∃ e, d = e + 1 := ⟨d - 1, by omega⟩
  have bh1 := tr_low tl bl
  have bh2 := tr_low tq br
  have na : a ∉ ads xl ∧ a ∉ ads xr := by grind [ads_app, ads_cons, List.nodup_append, List.nodup_cons]
  have hs := t_sum ha (tr_nod tl) (tr_nod tq) (by omega) (by omega) (d := d) (by omega)
  have ha1 := xset_at S a (pcell (nI s) (nI z) t l q (nI (max hl hr + 1)) (nI (xl.length + xr.length + 1)) (nI (tot xl + tot xr + z)))
  have tl1 : tr (xset S a (pcell (nI s) (nI z) t l q (nI (max hl hr + 1)) (nI (xl.length + xr.length + 1)) (nI (tot xl + tot xr + z)))).1 hl l xl := tr_kept tl fun b hb => xset_ne _ (fun e => na.1 (e ▸ hb))
  have tq1 : tr (xset S a (pcell (nI s) (nI z) t l q (nI (max hl hr + 1)) (nI (xl.length + xr.length + 1)) (nI (tot xl + tot xr + z)))).1 hr q xr := tr_kept tq fun b hb => xset_ne _ (fun e => na.2 (e ▸ hb))
  have fr1 : ∀ b, b ≠ a → (xset S a (pcell (nI s) (nI z) t l q (nI (max hl hr + 1)) (nI (xl.length + xr.length + 1)) (nI (tot xl + tot xr + z)))).1 b = S.1 b := fun b hb => xset_ne _ hb
  have e2 : (xset S a (pcell (nI s) (nI z) t l q (nI (max hl hr + 1)) (nI (xl.length + xr.length + 1)) (nI (tot xl + tot xr + z)))).2 = S.2 := rfl
  generalize xset S a (pcell (nI s) (nI z) t l q (nI (max hl hr + 1)) (nI (xl.length + xr.length + 1)) (nI (tot xl + tot xr + z))) = S1 at hs ha1 tl1 tq1 fr1 e2
  show ∃ r' S' h', e_T_balance d (some a) S = some (r', S') ∧ _
  simp only [e_T_balance, hs, Option.bind_some, gR3 ha1, gR4 ha1, r_height tl1 (d := d) (by omega), r_height tq1 (d := d) (by omega)]
  rw [tilt1 (by omega) (by omega)]
  by_cases c1 : hl ≤ hr + 1
  · rw [if_pos c1]
    simp only [b_T_balance_63, b_T_balance_102]
    rw [tilt2 (by omega) (by omega)]
    by_cases c2 : hr ≤ hl + 1
    · rw [if_pos c2]
      refine ⟨some a, S1, max hl hr + 1, rfl, tr_node ha1 c1 c2 tl1 tq1, e2, ?_, by omega, by omega, fun _ _ => rfl⟩
      intro b hb
      exact fr1 b (by grind [ads_app, ads_cons])
    · rw [if_neg c2]
      rcases tr_inv tq1 with ⟨g, _⟩ | ⟨b, sb, zb, tb, ql, qr, hql, hqr, xql, xqr, g1, rfl, rfl, hb, g2, g3, tql, tqr⟩
      · omega
      simp only [xcase_some, Option.bind_some, gR3 hb, gR4 hb, r_height tql (d := d) (by omega), r_height tqr (d := d) (by omega)]
      rw [ifle (by omega) (by omega)]
      have nb : b ≠ a ∧ (∀ c ∈ ads xl, c ≠ a ∧ c ≠ b) ∧ (∀ c ∈ ads xql, c ≠ a ∧ c ≠ b) ∧ (∀ c ∈ ads xqr, c ≠ a ∧ c ≠ b) := by grind [ads_app, ads_cons, List.nodup_append, List.nodup_cons]
      obtain ⟨nba, nxl, nql, nqr⟩ := nb
      by_cases c3 : hql ≤ hqr
      · rw [if_pos c3]
        simp only [b_T_balance_97]
        obtain ⟨S2, f2, m2, hp2, hb2, fr2⟩ := t_raiseR ha1 hb nba (tr_nod tl1) (tr_nod tql) (tr_nod tqr) (tr_root tl1 fun e => (nxl _ e).1 rfl) (tr_root tql fun e => (nql _ e).1 rfl) (tr_root tqr fun e => (nqr _ e).1 rfl) (tr_root tl1 fun e => (nxl _ e).2 rfl) (tr_root tql fun e => (nql _ e).2 rfl) (tr_root tqr fun e => (nqr _ e).2 rfl) (by omega) (by omega) (by omega) (d := d) (by omega)
        simp only [f2, Option.bind_some]
        have k1 : tr S2.1 hl l xl := tr_kept tl1 fun c hc => fr2 c (nxl c hc).1 (nxl c hc).2
        have k2 : tr S2.1 hql ql xql := tr_kept tql fun c hc => fr2 c (nql c hc).1 (nql c hc).2
        have k3 : tr S2.1 hqr qr xqr := tr_kept tqr fun c hc => fr2 c (nqr c hc).1 (nqr c hc).2
        have ta : tr S2.1 (max hl hql + 1) (some a) (xl ++ (a, s, z, t) :: xql) := tr_node hp2 (by omega) (by omega) k1 k2
        refine ⟨some b, S2, max (max hl hql + 1) hqr + 1, rfl, tr_mk hb2 ta k3 rfl ?_ ?_ (by omega) (by omega) rfl (by simp), by rw [m2, e2], ?_, by omega, by omega, by omega⟩
        · congr 1; simp only [List.length_append, List.length_cons]; omega
        · congr 1; simp only [tot_app, tot_cons]; omega
        · intro c hc
          have : c ≠ a ∧ c ≠ b := by grind [ads_app, ads_cons]
          rw [fr2 c this.1 this.2, fr1 c this.1]
      · rw [if_neg c3]
        rcases tr_inv tql with ⟨g, _⟩ | ⟨c, sc, zc, tc, cx, cy, hx, hy, xx, xy, g4, rfl, rfl, hc, g5, g6, tx, ty⟩
        · omega
        have nc : c ≠ a ∧ c ≠ b ∧ (∀ e ∈ ads xl, e ≠ c) ∧ (∀ e ∈ ads xx, e ≠ a ∧ e ≠ b ∧ e ≠ c) ∧ (∀ e ∈ ads xy, e ≠ a ∧ e ≠ b ∧ e ≠ c) ∧ (∀ e ∈ ads xqr, e ≠ c) := ndup5 (by simpa only [ads_app, ads_cons, List.append_assoc, List.cons_append] using nd')
        obtain ⟨nca, ncb, nlc, nx, ny, nqc⟩ := nc
        obtain ⟨S2, f2, m2, hp2, hc2, fr2⟩ := t_raiseL hb hc ncb (tr_nod tx) (tr_nod ty) (tr_nod tqr) (tr_root tx fun e => (nx _ e).2.1 rfl) (tr_root ty fun e => (ny _ e).2.1 rfl) (tr_root tqr fun e => (nqr _ e).2 rfl) (tr_root tx fun e => (nx _ e).2.2 rfl) (tr_root ty fun e => (ny _ e).2.2 rfl) (tr_root tqr fun e => nqc _ e rfl) (by omega) (by omega) (by omega) (d := d) (by omega)
        have ha2 : S2.1 a = _ := (fr2 a (Ne.symm nba) (Ne.symm nca)).trans ha1
        simp only [f2, Option.bind_some, pP4 ha2, b_T_balance_97]
        have ha3 := xset_at S2 a (pcell (nI s) (nI z) t l (some c) (nI (max hl hr + 1)) (nI (xl.length + (xx ++ (c, sc, zc, tc) :: xy ++ (b, sb, zb, tb) :: xqr).length + 1)) (nI (tot xl + tot (xx ++ (c, sc, zc, tc) :: xy ++ (b, sb, zb, tb) :: xqr) + z)))
        have fr3 : ∀ e, e ≠ a → (xset S2 a (pcell (nI s) (nI z) t l (some c) (nI (max hl hr + 1)) (nI (xl.length + (xx ++ (c, sc, zc, tc) :: xy ++ (b, sb, zb, tb) :: xqr).length + 1)) (nI (tot xl + tot (xx ++ (c, sc, zc, tc) :: xy ++ (b, sb, zb, tb) :: xqr) + z)))).1 e = S2.1 e := fun e he => xset_ne _ he
        have m3 : (xset S2 a (pcell (nI s) (nI z) t l (some c) (nI (max hl hr + 1)) (nI (xl.length + (xx ++ (c, sc, zc, tc) :: xy ++ (b, sb, zb, tb) :: xqr).length + 1)) (nI (tot xl + tot (xx ++ (c, sc, zc, tc) :: xy ++ (b, sb, zb, tb) :: xqr) + z)))).2 = S2.2 := rfl
        generalize xset S2 a (pcell (nI s) (nI z) t l (some c) (nI (max hl hr + 1)) (nI (xl.length + (xx ++ (c, sc, zc, tc) :: xy ++ (b, sb, zb, tb) :: xqr).length + 1)) (nI (tot xl + tot (xx ++ (c, sc, zc, tc) :: xy ++ (b, sb, zb, tb) :: xqr) + z))) = S3 at ha3 fr3 m3 ⊢
        have hc3 := (fr3 c nca).trans hc2
        have hb3 := (fr3 b nba).trans hp2
        have l3 : tr S3.1 hl l xl := tr_kept tl1 fun e he => by rw [fr3 e (nxl e he).1, fr2 e (nxl e he).2 (nlc e he)]
        have x3 : tr S3.1 hx cx xx := tr_kept tx fun e he => by rw [fr3 e (nx e he).1, fr2 e (nx e he).2.1 (nx e he).2.2]
        have y3 : tr S3.1 hy cy xy := tr_kept ty fun e he => by rw [fr3 e (ny e he).1, fr2 e (ny e he).2.1 (ny e he).2.2]
        have q3 : tr S3.1 hqr qr xqr := tr_kept tqr fun e he => by rw [fr3 e (nqr e he).1, fr2 e (nqr e he).2 (nqc e he)]
        obtain ⟨S4, f4, m4, hp4, hc4, fr4⟩ := t_raiseR ha3 hc3 nca (tr_nod l3) (tr_nod x3) (.inr ⟨b, _, _, _, _, _, rfl, hb3⟩) (tr_root l3 fun e => (nxl _ e).1 rfl) (tr_root x3 fun e => (nx _ e).1 rfl) (by simpa using nba) (tr_root l3 fun e => nlc _ e rfl) (tr_root x3 fun e => (nx _ e).2.2 rfl) (by simpa using Ne.symm ncb) (by omega) (by omega) (by omega) (d := d) (by omega)
        simp only [f4, Option.bind_some]
        have l4 : tr S4.1 hl l xl := tr_kept l3 fun e he => fr4 e (nxl e he).1 (nlc e he)
        have x4 : tr S4.1 hx cx xx := tr_kept x3 fun e he => fr4 e (nx e he).1 (nx e he).2.2
        have y4 : tr S4.1 hy cy xy := tr_kept y3 fun e he => fr4 e (ny e he).1 (ny e he).2.2
        have q4 : tr S4.1 hqr qr xqr := tr_kept q3 fun e he => fr4 e (nqr e he).1 (nqc e he)
        have hb4 := (fr4 b nba (Ne.symm ncb)).trans hb3
        have ta : tr S4.1 (max hl hx + 1) (some a) (xl ++ (a, s, z, t) :: xx) := tr_node hp4 (by omega) (by omega) l4 x4
        have tb' : tr S4.1 (max hy hqr + 1) (some b) (xy ++ (b, sb, zb, tb) :: xqr) := tr_node hb4 (by omega) (by omega) y4 q4
        refine ⟨some c, S4, max (max hl hx + 1) (max hy hqr + 1) + 1, rfl, tr_mk hc4 ta tb' rfl ?_ ?_ (by omega) (by omega) rfl (by simp), by rw [m4, m3, m2, e2], ?_, by omega, by omega, by omega⟩
        · congr 1; simp only [List.length_append, List.length_cons]; omega
        · congr 1; simp only [tot_app, tot_cons]; omega
        · intro e he
          have : e ≠ a ∧ e ≠ b ∧ e ≠ c := by grind [ads_app, ads_cons]
          rw [fr4 e this.1 this.2.2, fr3 e this.1, fr2 e this.2.1 this.2.2, fr1 e this.1]
  · rw [if_neg c1]
    rcases tr_inv tl1 with ⟨g, _⟩ | ⟨b, sb, zb, tb, ll, lr, hll, hlr, xll, xlr, g1, rfl, rfl, hb, g2, g3, tll, tlr⟩
    · omega
    simp only [xcase_some, Option.bind_some, gR3 hb, gR4 hb, r_height tll (d := d) (by omega), r_height tlr (d := d) (by omega)]
    rw [ifle (by omega) (by omega)]
    have nb : b ≠ a ∧ (∀ c ∈ ads xr, c ≠ a ∧ c ≠ b) ∧ (∀ c ∈ ads xll, c ≠ a ∧ c ≠ b) ∧ (∀ c ∈ ads xlr, c ≠ a ∧ c ≠ b) := by grind [ads_app, ads_cons, List.nodup_append, List.nodup_cons]
    obtain ⟨nba, nxr, nll, nlr⟩ := nb
    by_cases c3 : hlr ≤ hll
    · rw [if_pos c3]
      simp only [b_T_balance_58]
      obtain ⟨S2, f2, m2, hp2, hb2, fr2⟩ := t_raiseL ha1 hb nba (tr_nod tll) (tr_nod tlr) (tr_nod tq1) (tr_root tll fun e => (nll _ e).1 rfl) (tr_root tlr fun e => (nlr _ e).1 rfl) (tr_root tq1 fun e => (nxr _ e).1 rfl) (tr_root tll fun e => (nll _ e).2 rfl) (tr_root tlr fun e => (nlr _ e).2 rfl) (tr_root tq1 fun e => (nxr _ e).2 rfl) (by omega) (by omega) (by omega) (d := d) (by omega)
      simp only [f2, Option.bind_some]
      have k1 : tr S2.1 hll ll xll := tr_kept tll fun c hc => fr2 c (nll c hc).1 (nll c hc).2
      have k2 : tr S2.1 hlr lr xlr := tr_kept tlr fun c hc => fr2 c (nlr c hc).1 (nlr c hc).2
      have k3 : tr S2.1 hr q xr := tr_kept tq1 fun c hc => fr2 c (nxr c hc).1 (nxr c hc).2
      have ta : tr S2.1 (max hlr hr + 1) (some a) (xlr ++ (a, s, z, t) :: xr) := tr_node hp2 (by omega) (by omega) k2 k3
      refine ⟨some b, S2, max hll (max hlr hr + 1) + 1, rfl, tr_mk hb2 k1 ta rfl ?_ ?_ (by omega) (by omega) rfl (by simp), by rw [m2, e2], ?_, by omega, by omega, by omega⟩
      · congr 1; simp only [List.length_append, List.length_cons]; omega
      · congr 1; simp only [tot_app, tot_cons]; omega
      · intro c hc
        have : c ≠ a ∧ c ≠ b := by grind [ads_app, ads_cons]
        rw [fr2 c this.1 this.2, fr1 c this.1]
    · rw [if_neg c3]
      rcases tr_inv tlr with ⟨g, _⟩ | ⟨c, sc, zc, tc, cx, cy, hx, hy, xx, xy, g4, rfl, rfl, hc, g5, g6, tx, ty⟩
      · omega
      have nc : c ≠ a ∧ c ≠ b ∧ (∀ e ∈ ads xr, e ≠ c) ∧ (∀ e ∈ ads xx, e ≠ a ∧ e ≠ b ∧ e ≠ c) ∧ (∀ e ∈ ads xy, e ≠ a ∧ e ≠ b ∧ e ≠ c) ∧ (∀ e ∈ ads xll, e ≠ c) := by
        obtain ⟨g7, g8, g9, g10, g11, g12⟩ := ndup5 (A := ads xll) (B := ads xx) (C := ads xy) (D := ads xr) (a := b) (b := a) (c := c) (by simpa only [ads_app, ads_cons, List.append_assoc, List.cons_append] using nd')
        exact ⟨g8, g7, g12, fun e he => ⟨(g10 e he).2.1, (g10 e he).1, (g10 e he).2.2⟩, fun e he => ⟨(g11 e he).2.1, (g11 e he).1, (g11 e he).2.2⟩, g9⟩
      obtain ⟨nca, ncb, nrc, nx, ny, nlc⟩ := nc
      obtain ⟨S2, f2, m2, hp2, hc2, fr2⟩ := t_raiseR hb hc ncb (tr_nod tll) (tr_nod tx) (tr_nod ty) (tr_root tll fun e => (nll _ e).2 rfl) (tr_root tx fun e => (nx _ e).2.1 rfl) (tr_root ty fun e => (ny _ e).2.1 rfl) (tr_root tll fun e => nlc _ e rfl) (tr_root tx fun e => (nx _ e).2.2 rfl) (tr_root ty fun e => (ny _ e).2.2 rfl) (by omega) (by omega) (by omega) (d := d) (by omega)
      have ha2 : S2.1 a = _ := (fr2 a (Ne.symm nba) (Ne.symm nca)).trans ha1
      simp only [f2, Option.bind_some, pP3 ha2, b_T_balance_58]
      generalize hS3 : xset S2 a _ = S3
      have ha3 := hS3 ▸ xset_at S2 a _
      have fr3 : ∀ e, e ≠ a → S3.1 e = S2.1 e := fun e he => hS3 ▸ xset_ne _ he
      have m3 : S3.2 = S2.2 := hS3 ▸ rfl
      have hc3 := (fr3 c nca).trans hc2
      have hb3 := (fr3 b nba).trans hp2
      have l3 : tr S3.1 hll ll xll := tr_kept tll fun e he => by rw [fr3 e (nll e he).1, fr2 e (nll e he).2 (nlc e he)]
      have x3 : tr S3.1 hx cx xx := tr_kept tx fun e he => by rw [fr3 e (nx e he).1, fr2 e (nx e he).2.1 (nx e he).2.2]
      have y3 : tr S3.1 hy cy xy := tr_kept ty fun e he => by rw [fr3 e (ny e he).1, fr2 e (ny e he).2.1 (ny e he).2.2]
      have q3 : tr S3.1 hr q xr := tr_kept tq1 fun e he => by rw [fr3 e (nxr e he).1, fr2 e (nxr e he).2 (nrc e he)]
      obtain ⟨S4, f4, m4, hp4, hc4, fr4⟩ := t_raiseL ha3 hc3 nca (.inr ⟨b, _, _, _, _, _, rfl, hb3⟩) (tr_nod y3) (tr_nod q3) (by simpa using nba) (tr_root y3 fun e => (ny _ e).1 rfl) (tr_root q3 fun e => (nxr _ e).1 rfl) (by simpa using Ne.symm ncb) (tr_root y3 fun e => (ny _ e).2.2 rfl) (tr_root q3 fun e => nrc _ e rfl) (by omega) (by omega) (by omega) (d := d) (by omega)
      simp only [f4, Option.bind_some]
      have l4 : tr S4.1 hll ll xll := tr_kept l3 fun e he => fr4 e (nll e he).1 (nlc e he)
      have x4 : tr S4.1 hx cx xx := tr_kept x3 fun e he => fr4 e (nx e he).1 (nx e he).2.2
      have y4 : tr S4.1 hy cy xy := tr_kept y3 fun e he => fr4 e (ny e he).1 (ny e he).2.2
      have q4 : tr S4.1 hr q xr := tr_kept q3 fun e he => fr4 e (nxr e he).1 (nrc e he)
      have hb4 := (fr4 b nba (Ne.symm ncb)).trans hb3
      have ta : tr S4.1 (max hy hr + 1) (some a) (xy ++ (a, s, z, t) :: xr) := tr_node hp4 (by omega) (by omega) y4 q4
      have tb' : tr S4.1 (max hll hx + 1) (some b) (xll ++ (b, sb, zb, tb) :: xx) := tr_node hb4 (by omega) (by omega) l4 x4
      refine ⟨some c, S4, max (max hll hx + 1) (max hy hr + 1) + 1, rfl, tr_mk hc4 tb' ta rfl ?_ ?_ (by omega) (by omega) rfl (by simp), by rw [m4, m3, m2, e2], ?_, by omega, by omega, by omega⟩
      · congr 1; simp only [List.length_append, List.length_cons]; omega
      · congr 1; simp only [tot_app, tot_cons]; omega
      · intro e he
        have : e ≠ a ∧ e ≠ b ∧ e ≠ c := by grind [ads_app, ads_cons]
        rw [fr4 e this.1 this.2.2, fr3 e this.1, fr2 e this.2.1 this.2.2, fr1 e this.1]
