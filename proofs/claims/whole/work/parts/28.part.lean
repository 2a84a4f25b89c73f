/-! PARTING A ROW -/
theorem ads_c4 (a s z : Nat) (t : Int32) (xs : List nd) : ads ((a, s, z, t) :: xs) = a :: ads xs := rfl
def kcell (l q : Option Nat) : xO := .inr (1, [va_rf l, va_rf q])
theorem gK0 {S : xS} {K : Nat} {l q : Option Nat} (h : S.1 K = some (kcell l q)) : xgR S (some K) 1 0 = some l := by cases l <;> simp [xgR, xobj, h, kcell, va_rf]
theorem gK1 {S : xS} {K : Nat} {l q : Option Nat} (h : S.1 K = some (kcell l q)) : xgR S (some K) 1 1 = some q := by cases q <;> simp [xgR, xobj, h, kcell, va_rf]
theorem pK0 {S : xS} {K : Nat} {l q : Option Nat} (h : S.1 K = some (kcell l q)) (v : Option Nat) : xput S (some K) 1 0 (va_rf v) = some (xset S K (kcell v q)) := by simp [xput, xobj, h, kcell]
theorem pK1 {S : xS} {K : Nat} {l q : Option Nat} (h : S.1 K = some (kcell l q)) (v : Option Nat) : xput S (some K) 1 1 (va_rf v) = some (xset S K (kcell l v)) := by simp [xput, xobj, h, kcell]
theorem tilt0 {α : Type} {a b : Nat} (ha : a < 2 ^ 30) (hb : b < 2 ^ 30) (x y : α) : (if 0 < nI a - nI b then x else y) = if b < a then x else y := by
  have e := pk_sub_toInt ha hb
  have e1 : (0 : Int32).toInt = 0 := rfl
  by_cases c : b < a
  · rw [if_pos c, if_pos (by rw [Int32.lt_iff_toInt_lt, e, e1]; omega)]
  · rw [if_neg c, if_neg (by rw [Int32.lt_iff_toInt_lt, e, e1]; omega)]
theorem lst_drop (A : List chr) (f : Nat) : lst none (A.drop f) = none ∨ lst none (A.drop f) = lst none A := by
  have e : lst none A = lst (lst none (A.take f)) (A.drop f) := by rw [← lst_app, List.take_append_drop]
  cases h : A.drop f with
  | nil => exact .inl rfl
  | cons x l => right; rw [e, h]; rfl
theorem nrm_suf {A X zs : List nd} {f : Nat} (h : nrm none (A ++ X)) (hz : nrm none zs) (e : chs zs = (chs A).drop f) : nrm none (zs ++ X) := by
  refine (nrm_app _ _ _).mpr ⟨hz, ?_⟩
  have h2 := ((nrm_app _ _ _).mp h).2
  rw [e]
  rcases lst_drop (chs A) f with g | g
  · rw [g]; exact nrm_none h2
  · rw [g]; exact h2
theorem nrm_pre {o : Option chr} {X ys : List nd} {k : Nat} (h : nrm o X) (hy : nrm none ys) (e : chs ys = (chs X).take k) : nrm o ys := by
  refine nrm_head hy ?_
  intro y hh
  cases ys with
  | nil => cases hh
  | cons y' ys =>
    obtain rfl : y' = y := by simpa using hh
    have h1 := chs_head (xs := ys) hy.1
    rw [e] at h1
    cases X with
    | nil => simp [chs] at h1
    | cons x X =>
      have h2 := chs_head (xs := X) h.1
      cases k with
      | zero => simp at h1
      | succ k =>
        cases hc : chs (x :: X) with
        | nil => rw [hc] at h2; cases h2
        | cons c l =>
          rw [hc] at h1 h2
          simp only [List.take_succ_cons, List.head?_cons, Option.some.injEq] at h1 h2
          have e2 : (y'.2.1, y'.2.2.2) = (x.2.1, x.2.2.2) := h1.symm.trans h2
          rw [e2]
          exact h.2.1
theorem tr_nil_root {H : Nat → Option xO} {h : Nat} {r : Option Nat} (T : tr H h r []) : r = none := by
  rcases tr_top T with ⟨e, _⟩ | ⟨_, _, _, _, _, _, _, e, _⟩
  · exact e
  · cases e
theorem t_partInto (v : Nat) : ∀ {S : xS} {T K d h n m f : Nat} {p a0 b0 : Option Nat} {xs : List nd} {F : Nat → Prop}, tr S.1 h p xs → (ads xs).Nodup → nrm none xs → St S T (un F (K :: ads xs)) → (∀ a ∈ ads xs, ¬ F a ∧ a ≠ K) → ¬ F K → xs.length < 1999 → tot xs ≤ 10000 → S.1 K = some (kcell a0 b0) → f ≤ 10000 → (∀ c ∈ chs xs, c.1 < 4096) → h ≤ v → v ≤ 40 → 60 + v < d → rm S (n + 1) (m + 8) →
    ∃ (S' : xS) (l' r' : Option Nat) (hy hz : Nat) (ys zs : List nd), f_T_partInto d (some T) (some K) p (nI f) (nI v) S = some ((), S') ∧ S'.1 K = some (kcell l' r') ∧ tr S'.1 hy l' ys ∧ tr S'.1 hz r' zs ∧ chs ys = (chs xs).take f ∧ chs zs = (chs xs).drop f ∧ nrm none ys ∧ nrm none zs ∧ (ads (ys ++ zs)).Nodup ∧ (∀ a ∈ ads (ys ++ zs), ¬ F a ∧ a ≠ K) ∧ St S' T (un F (K :: ads (ys ++ zs))) ∧ (∀ b, F b → S'.1 b = S.1 b) ∧ rm S' n m ∧ ys.length + zs.length ≤ xs.length + 1 := by
  induction v with
  | zero =>
    intro S T K d h n m f p a0 b0 xs F tp N hn hs hF hK hl ht hk hf cb hv _ hd hr
    have h0 : h = 0 := by omega
    subst h0
    obtain ⟨rfl, rfl⟩ := tr_zero tp
    obtain ⟨d, rfl⟩ : ∃ e, d = e + 1 := ⟨d - 1, by omega⟩
    refine ⟨xset S K (kcell none none), none, none, 0, 0, [], [], ?_, xset_at _ _ _, tr_nil _, tr_nil _, by simp [chs], by simp [chs], trivial, trivial, N, hF, ?_, ?_, (rm.less hr (by omega) (by omega)).same rfl, by simp⟩
    · show e_T_partInto d (f_T_partInto d) (some T) (some K) none (nI f) (nI 0) S = _
      simp only [e_T_partInto, b_T_partInto_10, xcase_none, pK0 hk, pK1 (xset_at _ _ _), xset_two, Option.bind_some]
    · exact hs.kept rfl fun b hb => xset_ne _ (fun e => hb (.inr (by simp [e])))
    · exact fun b hb => xset_ne _ (fun e => hK (by rw [← e]; exact hb))
  | succ v ih =>
    intro S T K d h n m f p a0 b0 xs F tp N hn hs hF hK hl ht hk hf cb hv hv' hd hr
    obtain ⟨d, rfl⟩ : ∃ e, d = e + 1 := ⟨d - 1, by omega⟩
    rcases tr_inv tp with ⟨rfl, rfl, rfl⟩ | ⟨a, s, z, t, l, q, h1, h2, xl, xr, rfl, rfl, rfl, ha, g1, g2, tl, tq⟩
    · refine ⟨xset S K (kcell none none), none, none, 0, 0, [], [], ?_, xset_at _ _ _, tr_nil _, tr_nil _, by simp [chs], by simp [chs], trivial, trivial, N, hF, ?_, ?_, (rm.less hr (by omega) (by omega)).same rfl, by simp⟩
      · show e_T_partInto d (f_T_partInto d) (some T) (some K) none (nI f) _ S = _
        simp only [e_T_partInto, b_T_partInto_10, xcase_none, pK0 hk, pK1 (xset_at _ _ _), xset_two, Option.bind_some]
      · exact hs.kept rfl fun b hb => xset_ne _ (fun e => hb (.inr (by simp [e])))
      · exact fun b hb => xset_ne _ (fun e => hK (by rw [← e]; exact hb))
    · show ∃ S' l' r' hy hz ys zs, e_T_partInto d (f_T_partInto d) (some T) (some K) (some a) (nI f) (nI (v + 1)) S = some ((), S') ∧ _
      have c0 : (1 : Int32) ≤ nI (v + 1) := nI_le (a := 1) (by omega) (by omega)
      obtain ⟨w, hw⟩ := hs.T
      rw [tot_app, tot_cons] at ht
      simp only [List.length_append, List.length_cons] at hl ht
      simp only [e_T_partInto, xcase_some, if_pos c0, gR3 ha, gR4 ha, gI0 ha, gI1 ha, gI2 ha, Option.bind_some, nI_pred, r_chars tl (d := d) (by omega), hw, b_T_partInto_181]
      rw [tilt0 (by omega) (by omega)]
      obtain ⟨n1, n2, n3, n4, n5⟩ := nup N
      simp only at n3 n4
      have hFl : ∀ e ∈ ads xl, ¬ F e ∧ e ≠ K := fun e he => hF e (by rw [ads_app]; exact List.mem_append_left _ he)
      have hFr : ∀ e ∈ ads xr, ¬ F e ∧ e ≠ K := fun e he => hF e (by rw [ads_app, ads_c4]; exact List.mem_append_right _ (List.mem_cons_of_mem _ he))
      have hFa : ¬ F a ∧ a ≠ K := hF a (by rw [ads_app, ads_c4]; simp)
      have nl := ((nrm_app _ _ _).mp hn).1
      have nr := ((nrm_app _ _ _).mp hn).2
      have zp : 0 < z := nr.1
      have ebnd : s + z ≤ 4096 := cb_piece cb (x := (a, s, z, t)) (by simp) zp
      by_cases c1 : tot xl < f
      · rw [if_pos c1, pk_sub (by omega), iflt (by omega) (by omega)]
        by_cases c2 : f - tot xl < z
        · rw [if_pos c2]
          obtain ⟨a', S1, f1, ha', hs1, na', naT, fr1, rm1⟩ := t_take (d := d) (s := s + (f - tot xl)) (z := z - (f - tot xl)) (t := t) hs hr (by omega)
          rw [nI_add, pk_sub (by omega)]
          simp only [f1, Option.bind_some]
          have frX : ∀ b ∈ ads (xl ++ (a, s, z, t) :: xr), S1.1 b = S.1 b := fun b hb => fr1 b (.inr (List.mem_cons_of_mem _ hb))
          have hk1 := (fr1 K (.inr (by simp))).trans hk
          have ha1 := (frX a (by rw [ads_app, ads_c4]; simp)).trans ha
          have naL : a' ∉ ads (xl ++ (a, s, z, t) :: xr) := fun g => na' (.inr (List.mem_cons_of_mem _ g))
          have naK : a' ≠ K := fun g => na' (.inr (by simp [g]))
          obtain ⟨u1, u2, u3⟩ := nin naL
          simp only at u2
          simp only [pP1 ha1, Option.bind_some]
          have sx : ∀ b, b ≠ a → (xset S1 a (pcell (nI s) (nI (f - tot xl)) t l q (nI (max h1 h2 + 1)) (nI (xl.length + xr.length + 1)) (nI (tot xl + tot xr + z)))).1 b = S1.1 b := fun b hb => xset_ne _ hb
          have ha2 := xset_at S1 a (pcell (nI s) (nI (f - tot xl)) t l q (nI (max h1 h2 + 1)) (nI (xl.length + xr.length + 1)) (nI (tot xl + tot xr + z)))
          have m2 : (xset S1 a (pcell (nI s) (nI (f - tot xl)) t l q (nI (max h1 h2 + 1)) (nI (xl.length + xr.length + 1)) (nI (tot xl + tot xr + z)))).2 = S1.2 := rfl
          generalize xset S1 a (pcell (nI s) (nI (f - tot xl)) t l q (nI (max h1 h2 + 1)) (nI (xl.length + xr.length + 1)) (nI (tot xl + tot xr + z))) = S2 at sx ha2 m2 ⊢
          have tl2 : tr S2.1 h1 l xl := tr_kept tl fun b hb => by rw [sx b (fun g => n3 (by rw [← g]; exact hb)), frX b (by rw [ads_app]; exact List.mem_append_left _ hb)]
          have tq2 : tr S2.1 h2 q xr := tr_kept tq fun b hb => by rw [sx b (fun g => n4 (by rw [← g]; exact hb)), frX b (by rw [ads_app, ads_c4]; exact List.mem_append_right _ (List.mem_cons_of_mem _ hb))]
          have N3 : (ads (xl ++ (a, s, f - tot xl, t) :: [])).Nodup := by
            rw [ads_app, ads_c4, List.nodup_append, List.nodup_cons]
            exact ⟨n1, ⟨by simp [ads], by simp [ads]⟩, fun e he g hg h => by simp [ads] at hg; subst hg h; exact n3 he⟩
          obtain ⟨r3, S3, h3, f3, t3, m3, fr3, _, _⟩ := t_join 40 (d := d) ha2 tl2 (tr_nil _) N3 (by simp only [List.length_nil]; omega) (by omega) (by omega) (by omega) (by omega)
          have hf3 : f_T_join d l (some a) none 40 S2 = some (r3, S3) := f3
          simp only [hf3, Option.bind_some]
          have naLK : K ∉ ads (xl ++ (a, s, f - tot xl, t) :: []) := by
            rw [ads_app, ads_c4, List.mem_append, List.mem_cons]
            rintro (g | g | g)
            · exact (hFl K g).2 rfl
            · exact hFa.2 g.symm
            · cases g
          have hk3 := (fr3 K naLK).trans ((sx K (Ne.symm hFa.2)).trans hk1)
          simp only [pK0 hk3, Option.bind_some]
          have sk : ∀ b, b ≠ K → (xset S3 K (kcell r3 b0)).1 b = S3.1 b := fun b hb => xset_ne _ hb
          have hk4 := xset_at S3 K (kcell r3 b0)
          have m4 : (xset S3 K (kcell r3 b0)).2 = S3.2 := rfl
          generalize xset S3 K (kcell r3 b0) = S4 at sk hk4 m4 ⊢
          have nin3 : ∀ b, b ∉ ads xl → b ≠ a → b ∉ ads (xl ++ (a, s, f - tot xl, t) :: []) := fun b e1 e2 => by
            rw [ads_app, ads_c4, List.mem_append, List.mem_cons]
            rintro (g | g | g)
            · exact e1 g
            · exact e2 g
            · cases g
          have ha4 := (sk a' naK).trans ((fr3 a' (nin3 a' u1 u2)).trans ((sx a' u2).trans ha'))
          have tq4 : tr S4.1 h2 q xr := tr_kept tq2 fun b hb => by rw [sk b (hFr b hb).2, fr3 b (nin3 b (fun g => n5 b g hb) (fun g => n4 (by rw [← g]; exact hb)))]
          have N5 : (ads ([] ++ (a', s + (f - tot xl), z - (f - tot xl), t) :: xr)).Nodup := by
            rw [List.nil_append, ads_c4, List.nodup_cons]
            exact ⟨u3, n2⟩
          obtain ⟨r5, S5, h5, f5, t5, m5, fr5, _, _⟩ := t_join 40 (d := d) ha4 (tr_nil _) tq4 N5 (by simp only [List.length_nil]; omega) (by omega) (by omega) (by omega) (by omega)
          have hf5 : f_T_join d none (some a') q 40 S4 = some (r5, S5) := f5
          simp only [hf5, Option.bind_some]
          rw [List.nil_append] at t5 fr5 N5
          have nin5 : ∀ b, b ≠ a' → b ∉ ads xr → b ∉ ads ((a', s + (f - tot xl), z - (f - tot xl), t) :: xr) := fun b e1 e2 => by
            rw [ads_c4, List.mem_cons]
            rintro (g | g)
            · exact e1 g
            · exact e2 g
          have hk5 := (fr5 K (nin5 K (Ne.symm naK) (fun g => (hFr K g).2 rfl))).trans hk4
          simp only [pK1 hk5, Option.bind_some]
          have memu : ∀ b, (b = K ∨ b ∈ ads (xl ++ (a, s, f - tot xl, t) :: [] ++ (a', s + (f - tot xl), z - (f - tot xl), t) :: xr)) ↔ (b = K ∨ b ∈ ads (xl ++ (a, s, z, t) :: xr)) ∨ b = a' := by
            intro b
            simp only [ads_app, ads_c4, ads_nil, List.mem_append, List.mem_cons, List.not_mem_nil, or_false]
            constructor
            · rintro (g | (g | g) | g | g)
              · exact .inl (.inl g)
              · exact .inl (.inr (.inl g))
              · exact .inl (.inr (.inr (.inl g)))
              · exact .inr g
              · exact .inl (.inr (.inr (.inr g)))
            · rintro ((g | g | g | g) | g)
              · exact .inl g
              · exact .inr (.inl (.inl g))
              · exact .inr (.inl (.inr g))
              · exact .inr (.inr (.inr g))
              · exact .inr (.inr (.inl g))
          refine ⟨_, r3, r5, h3, h5, xl ++ (a, s, f - tot xl, t) :: [], (a', s + (f - tot xl), z - (f - tot xl), t) :: xr, rfl, xset_at _ _ _, ?_, ?_, ?_, ?_, ?_, ?_, ?_, ?_, ?_, ?_, ?_, ?_⟩
          · exact tr_kept t3 fun b hb => by
              have e1 : b ≠ K := fun g => naLK (by rw [← g]; exact hb)
              have e2 : b ≠ a' := fun g => nin3 a' u1 u2 (by rw [← g]; exact hb)
              have e3 : b ∉ ads xr := by
                rw [ads_app, ads_c4, List.mem_append, List.mem_cons] at hb
                rcases hb with g | g | g
                · exact n5 b g
                · rw [g]; exact n4
                · cases g
              rw [xset_ne _ e1, fr5 b (nin5 b e2 e3), sk b e1]
          · exact tr_kept t5 fun b hb => xset_ne _ (fun g => by
              rw [ads_c4, List.mem_cons] at hb
              rcases hb with e | e
              · exact naK (by rw [← g]; exact e.symm)
              · exact (hFr b e).2 g)
          · rw [chs_app, chs_app]
            show chs xl ++ (run s (f - tot xl) t ++ []) = (chs xl ++ (run s z t ++ chs xr)).take f
            rw [List.take_append, chs_len, List.take_of_length_le (by rw [chs_len]; omega), List.take_append, run_len, run_take]
            have e1 : f - tot xl - z = 0 := by omega
            have e2 : min (f - tot xl) z = f - tot xl := by omega
            rw [e1, e2, List.take_zero]
          · rw [chs_app]
            show run (s + (f - tot xl)) (z - (f - tot xl)) t ++ chs xr = (chs xl ++ (run s z t ++ chs xr)).drop f
            rw [List.drop_append, chs_len, List.drop_of_length_le (by rw [chs_len]; omega), List.drop_append, run_len, run_drop]
            have e1 : f - tot xl - z = 0 := by omega
            rw [e1, List.drop_zero, List.nil_append]
          · refine (nrm_app _ _ _).mpr ⟨nl, by show 0 < f - tot xl; omega, nr.2.1, trivial⟩
          · refine ⟨by show 0 < z - (f - tot xl); omega, rfl, ?_⟩
            show nrm (some (s + (f - tot xl) + (z - (f - tot xl)) - 1, t)) xr
            have e1 : s + (f - tot xl) + (z - (f - tot xl)) - 1 = s + z - 1 := by omega
            rw [e1]; exact nr.2.2
          · rw [ads_app, List.nodup_append]
            refine ⟨N3, N5, fun e he g hg h => ?_⟩
            subst h
            rw [ads_app, ads_c4, List.mem_append, List.mem_cons] at he
            rw [ads_c4, List.mem_cons] at hg
            rcases hg with hg | hg
            · rcases he with he | he | he
              · exact u1 (by rw [← hg]; exact he)
              · exact u2 (by rw [← hg]; exact he)
              · cases he
            · rcases he with he | he | he
              · exact n5 e he hg
              · exact n4 (by rw [← he]; exact hg)
              · cases he
          · intro b hb
            rcases (memu b).mp (.inr hb) with (g | g) | g
            · exfalso
              rw [g, ads_app, List.mem_append] at hb
              rcases hb with e | e
              · exact naLK e
              · rw [ads_c4, List.mem_cons] at e
                rcases e with e | e
                · exact naK e.symm
                · exact (hFr K e).2 rfl
            · exact hF b g
            · rw [g]; exact ⟨fun e => na' (.inl e), naK⟩
          · have hs5 : St S1 T (un F (K :: ads (xl ++ (a, s, f - tot xl, t) :: [] ++ (a', s + (f - tot xl), z - (f - tot xl), t) :: xr))) := hs1.less fun b hb => by
              rcases hb with g | g
              · exact .inl (.inl g)
              · rcases (memu b).mp (List.mem_cons.mp g) with e | e
                · exact .inl (.inr (List.mem_cons.mpr e))
                · exact .inr (by simp [e])
            refine hs5.kept (by rw [xset_2, m5, m4, m3, m2]) fun b hb => ?_
            have hb' : ¬ (b = K ∨ b ∈ ads (xl ++ (a, s, f - tot xl, t) :: [] ++ (a', s + (f - tot xl), z - (f - tot xl), t) :: xr)) := fun g => hb (.inr (List.mem_cons.mpr g))
            have e1 : b ≠ K := fun g => hb' (.inl g)
            have e2 : b ∉ ads (xl ++ (a, s, f - tot xl, t) :: []) := fun g => hb' (.inr (by rw [ads_app]; exact List.mem_append_left _ g))
            have e3 : b ∉ ads ((a', s + (f - tot xl), z - (f - tot xl), t) :: xr) := fun g => hb' (.inr (by rw [ads_app]; exact List.mem_append_right _ g))
            rw [xset_ne _ e1, fr5 b e3, sk b e1, fr3 b e2, sx b (nin e2).2.1]
          · intro b hb
            have e1 : b ≠ K := fun g => hK (by rw [← g]; exact hb)
            have e2 : b ∉ ads (xl ++ (a, s, f - tot xl, t) :: []) := nin3 b (fun g => (hFl b g).1 hb) (fun g => hFa.1 (by rw [← g]; exact hb))
            have e3 : b ∉ ads ((a', s + (f - tot xl), z - (f - tot xl), t) :: xr) := nin5 b (fun g => na' (.inl (by rw [← g]; exact hb))) (fun g => (hFr b g).1 hb)
            rw [xset_ne _ e1, fr5 b e3, sk b e1, fr3 b e2, sx b (nin e2).2.1, fr1 b (.inl hb)]
          · exact rm1.same (by rw [xset_2, m5, m4, m3, m2])
          · simp only [List.length_append, List.length_cons, List.length_nil]; omega
        · rw [if_neg c2, pk_sub (by omega)]
          have hs' : St S T (un (fun b => F b ∨ b ∈ ads (xl ++ [(a, s, z, t)])) (K :: ads xr)) := hs.less fun b hb => by
            rcases hb with (g | g) | g
            · exact .inl g
            · refine .inr (List.mem_cons_of_mem _ ?_)
              rw [ads_app, ads_c4, List.mem_append, List.mem_cons] at g ⊢
              rcases g with g | g | g
              · exact .inl g
              · exact .inr (.inl g)
              · cases g
            · refine .inr ?_
              rcases List.mem_cons.mp g with g | g
              · simp [g]
              · refine List.mem_cons_of_mem _ ?_
                rw [ads_app, ads_c4, List.mem_append, List.mem_cons]
                exact .inr (.inr g)
          have hK' : K ∉ ads (xl ++ [(a, s, z, t)]) := fun g => by
            rw [ads_app, ads_c4, List.mem_append, List.mem_cons] at g
            rcases g with g | g | g
            · exact (hFl K g).2 rfl
            · exact hFa.2 g.symm
            · cases g
          obtain ⟨S1, l1, r1, hy, hz, ys, zs, f1, hk1, ty, tz, ey, ez, ny, nz, Nyz, hF1, hs1, fr1, rm1, len1⟩ := ih (F := fun b => F b ∨ b ∈ ads (xl ++ [(a, s, z, t)])) (d := d) (f := f - tot xl - z) tq n2 (nrm_none nr.2.2) hs' (fun e he => ⟨fun g => (by
              rcases g with g | g
              · exact (hFr e he).1 g
              · rw [ads_app, ads_c4, List.mem_append, List.mem_cons] at g
                rcases g with g | g | g
                · exact n5 e g he
                · exact n4 (by rw [← g]; exact he)
                · cases g), (hFr e he).2⟩) (fun g => g.elim hK hK') (by omega) (by omega) hk (by omega) (fun c hc => cb c (by
              rw [chs_app]; refine List.mem_append_right _ ?_
              show c ∈ run _ _ _ ++ chs xr
              exact List.mem_append_right _ hc)) (by omega) (by omega) (by omega) hr
          simp only [f1, Option.bind_some, gK0 hk1]
          have keep : ∀ b, F b ∨ b ∈ ads (xl ++ [(a, s, z, t)]) → S1.1 b = S.1 b := fr1
          have ha1 := (keep a (.inr (by rw [ads_app]; simp [ads]))).trans ha
          have tl1 : tr S1.1 h1 l xl := tr_kept tl fun b hb => keep b (.inr (by rw [ads_app]; exact List.mem_append_left _ hb))
          have hy1 : ∀ e ∈ ads (ys ++ zs), ¬ F e ∧ e ∉ ads xl ∧ e ≠ a ∧ e ≠ K := fun e he => by
            obtain ⟨g1, g2⟩ := hF1 e he
            refine ⟨fun g => g1 (.inl g), fun g => g1 (.inr (by rw [ads_app]; exact List.mem_append_left _ g)), fun g => g1 (.inr (by rw [ads_app, g]; simp [ads])), g2⟩
          obtain ⟨Ny, Nz, Nd⟩ := nodup_un Nyz
          have memy : ∀ e ∈ ads ys, e ∈ ads (ys ++ zs) := fun e he => by rw [ads_app]; exact List.mem_append_left _ he
          have memz : ∀ e ∈ ads zs, e ∈ ads (ys ++ zs) := fun e he => by rw [ads_app]; exact List.mem_append_right _ he
          have Nj : (ads (xl ++ (a, s, z, t) :: ys)).Nodup := by
            rw [ads_app, ads_c4, List.nodup_append, List.nodup_cons]
            refine ⟨n1, ⟨fun g => (hy1 a (memy a g)).2.2.1 rfl, Ny⟩, fun e he f' hf' g => ?_⟩
            subst g
            rcases List.mem_cons.mp hf' with g | g
            · exact n3 (by rw [← g]; exact he)
            · exact (hy1 e (memy e g)).2.1 he
          obtain ⟨r2, S2, h3, f2, t2, m2, fr2, _, _⟩ := t_join 40 (d := d) ha1 tl1 ty Nj (by omega) (by have := tr_low tl1 (by omega); omega) (by have := tr_low ty (by omega); omega) (by omega) (by omega)
          have hf2 : f_T_join d l (some a) l1 40 S1 = some (r2, S2) := f2
          simp only [hf2, Option.bind_some]
          have nKj : K ∉ ads (xl ++ (a, s, z, t) :: ys) := fun g => by
            rw [ads_app, ads_c4, List.mem_append, List.mem_cons] at g
            rcases g with g | g | g
            · exact (hFl K g).2 rfl
            · exact hFa.2 g.symm
            · exact (hy1 K (memy K g)).2.2.2 rfl
          have hk2 := (fr2 K nKj).trans hk1
          simp only [pK0 hk2, Option.bind_some]
          have njz : ∀ e ∈ ads zs, e ∉ ads (xl ++ (a, s, z, t) :: ys) := fun e he g => by
            rw [ads_app, ads_c4, List.mem_append, List.mem_cons] at g
            rcases g with g | g | g
            · exact (hy1 e (memz e he)).2.1 g
            · exact (hy1 e (memz e he)).2.2.1 g
            · exact Nd e g he
          refine ⟨_, r2, r1, h3, hz, xl ++ (a, s, z, t) :: ys, zs, rfl, xset_at _ _ _, ?_, ?_, ?_, ?_, ?_, nz, ?_, ?_, ?_, ?_, ?_, ?_⟩
          · exact tr_kept t2 fun b hb => xset_ne _ (fun g => nKj (by rw [← g]; exact hb))
          · exact tr_kept tz fun b hb => by rw [xset_ne _ (hy1 b (memz b hb)).2.2.2, fr2 b (njz b hb)]
          · rw [chs_app, chs_app]
            show chs xl ++ (run s z t ++ chs ys) = (chs xl ++ (run s z t ++ chs xr)).take f
            rw [List.take_append, chs_len, List.take_of_length_le (by rw [chs_len]; omega), List.take_append, run_len, List.take_of_length_le (by rw [run_len]; omega), ey]
          · rw [ez, chs_app]
            show _ = (chs xl ++ (run s z t ++ chs xr)).drop f
            have e1 : (chs xl).drop f = [] := List.drop_of_length_le (by rw [chs_len]; omega)
            have e2 : (run s z t).drop (f - tot xl) = [] := List.drop_of_length_le (by rw [run_len]; omega)
            rw [List.drop_append, chs_len, e1, List.drop_append, run_len, e2, List.nil_append, List.nil_append]
          · exact (nrm_app _ _ _).mpr ⟨nl, zp, nr.2.1, nrm_pre nr.2.2 ny ey⟩
          · rw [ads_app, List.nodup_append]
            exact ⟨Nj, Nz, fun e he g hg h => njz g hg (by rw [← h]; exact he)⟩
          · intro b hb
            rw [ads_app, ads_app, ads_c4, List.mem_append, List.mem_append, List.mem_cons] at hb
            rcases hb with (g | g | g) | g
            · exact hFl b g
            · rw [g]; exact hFa
            · exact ⟨(hy1 b (memy b g)).1, (hy1 b (memy b g)).2.2.2⟩
            · exact ⟨(hy1 b (memz b g)).1, (hy1 b (memz b g)).2.2.2⟩
          · have hs5 : St S1 T (un F (K :: ads (xl ++ (a, s, z, t) :: ys ++ zs))) := hs1.less fun b hb => by
              rcases hb with g | g
              · exact .inl (.inl g)
              · rw [List.mem_cons, ads_app, ads_app, ads_c4, List.mem_append, List.mem_append, List.mem_cons] at g
                rcases g with g | (g | g | g) | g
                · exact .inr (by simp [g])
                · exact .inl (.inr (by rw [ads_app]; exact List.mem_append_left _ g))
                · exact .inl (.inr (by rw [ads_app, g]; simp [ads]))
                · exact .inr (List.mem_cons_of_mem _ (memy b g))
                · exact .inr (List.mem_cons_of_mem _ (memz b g))
            refine hs5.kept (by rw [xset_2, m2]) fun b hb => ?_
            have e1 : b ≠ K := fun g => hb (.inr (by simp [g]))
            have e2 : b ∉ ads (xl ++ (a, s, z, t) :: ys) := fun g => hb (.inr (List.mem_cons_of_mem _ (by rw [ads_app]; exact List.mem_append_left _ g)))
            rw [xset_ne _ e1, fr2 b e2]
          · intro b hb
            have e1 : b ≠ K := fun g => hK (by rw [← g]; exact hb)
            have e2 : b ∉ ads (xl ++ (a, s, z, t) :: ys) := fun g => by
              rw [ads_app, ads_c4, List.mem_append, List.mem_cons] at g
              rcases g with g | g | g
              · exact (hFl b g).1 hb
              · exact hFa.1 (by rw [← g]; exact hb)
              · exact (hy1 b (memy b g)).1 hb
            rw [xset_ne _ e1, fr2 b e2, keep b (.inl hb)]
          · exact rm1.same (by rw [xset_2, m2])
          · simp only [List.length_append, List.length_cons]; omega
      · rw [if_neg c1]
        have hs' : St S T (un (fun b => F b ∨ b ∈ ads ((a, s, z, t) :: xr)) (K :: ads xl)) := hs.less fun b hb => by
          rcases hb with (g | g) | g
          · exact .inl g
          · exact .inr (List.mem_cons_of_mem _ (by rw [ads_app]; exact List.mem_append_right _ g))
          · refine .inr ?_
            rcases List.mem_cons.mp g with g | g
            · simp [g]
            · exact List.mem_cons_of_mem _ (by rw [ads_app]; exact List.mem_append_left _ g)
        have hK' : K ∉ ads ((a, s, z, t) :: xr) := fun g => by
          rw [ads_c4, List.mem_cons] at g
          rcases g with g | g
          · exact hFa.2 g.symm
          · exact (hFr K g).2 rfl
        obtain ⟨S1, l1, r1, hy, hz, ys, zs, f1, hk1, ty, tz, ey, ez, ny, nz, Nyz, hF1, hs1, fr1, rm1, len1⟩ := ih (F := fun b => F b ∨ b ∈ ads ((a, s, z, t) :: xr)) (d := d) (f := f) tl n1 nl hs' (fun e he => ⟨fun g => (by
            rcases g with g | g
            · exact (hFl e he).1 g
            · rw [ads_c4, List.mem_cons] at g
              rcases g with g | g
              · exact n3 (by rw [← g]; exact he)
              · exact n5 e he g), (hFl e he).2⟩) (fun g => g.elim hK hK') (by omega) (by omega) hk (by omega) (fun c hc => cb c (by
            rw [chs_app]; exact List.mem_append_left _ hc)) (by omega) (by omega) (by omega) hr
        simp only [f1, Option.bind_some, gK1 hk1]
        have keep : ∀ b, F b ∨ b ∈ ads ((a, s, z, t) :: xr) → S1.1 b = S.1 b := fr1
        have ha1 := (keep a (.inr (by rw [ads_c4]; simp))).trans ha
        have tq1 : tr S1.1 h2 q xr := tr_kept tq fun b hb => keep b (.inr (by rw [ads_c4]; exact List.mem_cons_of_mem _ hb))
        have hy1 : ∀ e ∈ ads (ys ++ zs), ¬ F e ∧ e ∉ ads xr ∧ e ≠ a ∧ e ≠ K := fun e he => by
          obtain ⟨g1, g2⟩ := hF1 e he
          refine ⟨fun g => g1 (.inl g), fun g => g1 (.inr (by rw [ads_c4]; exact List.mem_cons_of_mem _ g)), fun g => g1 (.inr (by rw [ads_c4, g]; simp)), g2⟩
        obtain ⟨Ny, Nz, Nd⟩ := nodup_un Nyz
        have memy : ∀ e ∈ ads ys, e ∈ ads (ys ++ zs) := fun e he => by rw [ads_app]; exact List.mem_append_left _ he
        have memz : ∀ e ∈ ads zs, e ∈ ads (ys ++ zs) := fun e he => by rw [ads_app]; exact List.mem_append_right _ he
        have Nj : (ads (zs ++ (a, s, z, t) :: xr)).Nodup := by
          rw [ads_app, ads_c4, List.nodup_append, List.nodup_cons]
          refine ⟨Nz, ⟨n4, n2⟩, fun e he f' hf' g => ?_⟩
          subst g
          rcases List.mem_cons.mp hf' with g | g
          · exact (hy1 e (memz e he)).2.2.1 g
          · exact (hy1 e (memz e he)).2.1 g
        obtain ⟨r2, S2, h3, f2, t2, m2, fr2, _, _⟩ := t_join 40 (d := d) ha1 tz tq1 Nj (by omega) (by have := tr_low tz (by omega); omega) (by have := tr_low tq1 (by omega); omega) (by omega) (by omega)
        have hf2 : f_T_join d r1 (some a) q 40 S1 = some (r2, S2) := f2
        simp only [hf2, Option.bind_some]
        have nKj : K ∉ ads (zs ++ (a, s, z, t) :: xr) := fun g => by
          rw [ads_app, ads_c4, List.mem_append, List.mem_cons] at g
          rcases g with g | g | g
          · exact (hy1 K (memz K g)).2.2.2 rfl
          · exact hFa.2 g.symm
          · exact (hFr K g).2 rfl
        have hk2 := (fr2 K nKj).trans hk1
        simp only [pK1 hk2, Option.bind_some]
        have njy : ∀ e ∈ ads ys, e ∉ ads (zs ++ (a, s, z, t) :: xr) := fun e he g => by
          rw [ads_app, ads_c4, List.mem_append, List.mem_cons] at g
          rcases g with g | g | g
          · exact Nd e he g
          · exact (hy1 e (memy e he)).2.2.1 g
          · exact (hy1 e (memy e he)).2.1 g
        refine ⟨_, l1, r2, hy, h3, ys, zs ++ (a, s, z, t) :: xr, rfl, xset_at _ _ _, ?_, ?_, ?_, ?_, ny, ?_, ?_, ?_, ?_, ?_, ?_, ?_⟩
        · exact tr_kept ty fun b hb => by rw [xset_ne _ (hy1 b (memy b hb)).2.2.2, fr2 b (njy b hb)]
        · exact tr_kept t2 fun b hb => xset_ne _ (fun g => nKj (by rw [← g]; exact hb))
        · rw [ey, chs_app, List.take_append_of_le_length (by rw [chs_len]; omega)]
        · rw [chs_app, ez, chs_app, List.drop_append_of_le_length (by rw [chs_len]; omega)]
        · exact nrm_suf hn nz ez
        · rw [ads_app, List.nodup_append]
          exact ⟨Ny, Nj, fun e he g hg h => njy e he (by rw [h]; exact hg)⟩
        · intro b hb
          rw [ads_app, ads_app, ads_c4, List.mem_append, List.mem_append, List.mem_cons] at hb
          rcases hb with g | g | g | g
          · exact ⟨(hy1 b (memy b g)).1, (hy1 b (memy b g)).2.2.2⟩
          · exact ⟨(hy1 b (memz b g)).1, (hy1 b (memz b g)).2.2.2⟩
          · rw [g]; exact hFa
          · exact hFr b g
        · have hs5 : St S1 T (un F (K :: ads (ys ++ (zs ++ (a, s, z, t) :: xr)))) := hs1.less fun b hb => by
            rcases hb with g | g
            · exact .inl (.inl g)
            · rw [List.mem_cons, ads_app, ads_app, List.mem_append, List.mem_append] at g
              rcases g with g | g | g | g
              · exact .inr (by simp [g])
              · exact .inr (List.mem_cons_of_mem _ (memy b g))
              · exact .inr (List.mem_cons_of_mem _ (memz b g))
              · exact .inl (.inr g)
          refine hs5.kept (by rw [xset_2, m2]) fun b hb => ?_
          have e1 : b ≠ K := fun g => hb (.inr (by simp [g]))
          have e2 : b ∉ ads (zs ++ (a, s, z, t) :: xr) := fun g => hb (.inr (List.mem_cons_of_mem _ (by rw [ads_app]; exact List.mem_append_right _ g)))
          rw [xset_ne _ e1, fr2 b e2]
        · intro b hb
          have e1 : b ≠ K := fun g => hK (by rw [← g]; exact hb)
          have e2 : b ∉ ads (zs ++ (a, s, z, t) :: xr) := fun g => by
            rw [ads_app, ads_c4, List.mem_append, List.mem_cons] at g
            rcases g with g | g | g
            · exact (hy1 b (memz b g)).1 hb
            · exact hFa.1 (by rw [← g]; exact hb)
            · exact (hFr b g).1 hb
          rw [xset_ne _ e1, fr2 b e2, keep b (.inl hb)]
        · exact rm1.same (by rw [xset_2, m2])
        · simp only [List.length_append, List.length_cons]; omega
theorem t_part {S : xS} {T d h n m f : Nat} {p : Option Nat} {xs : List nd} {F : Nat → Prop} (tp : tr S.1 h p xs) (N : (ads xs).Nodup) (hn : nrm none xs) (hs : St S T (un F (ads xs))) (hF : ∀ a ∈ ads xs, ¬ F a) (hl : xs.length < 1999) (ht : tot xs ≤ 10000) (hf : f ≤ 10000) (cb : ∀ c ∈ chs xs, c.1 < 4096) (hd : 101 < d) (hr : rm S (n + 2) (m + 10)) :
    ∃ (S' : xS) (K : Nat) (l' r' : Option Nat) (hy hz : Nat) (ys zs : List nd), f_T_part d (some T) p (nI f) S = some (some K, S') ∧ S'.1 K = some (kcell l' r') ∧ tr S'.1 hy l' ys ∧ tr S'.1 hz r' zs ∧ chs ys = (chs xs).take f ∧ chs zs = (chs xs).drop f ∧ nrm none ys ∧ nrm none zs ∧ (ads (ys ++ zs)).Nodup ∧ ¬ F K ∧ (∀ a ∈ ads (ys ++ zs), ¬ F a ∧ a ≠ K) ∧ St S' T (un F (K :: ads (ys ++ zs))) ∧ (∀ b, F b → S'.1 b = S.1 b) ∧ rm S' n m ∧ ys.length + zs.length ≤ xs.length + 1 := by
  obtain ⟨d, rfl⟩ : ∃ e, d = e + 1 := ⟨d - 1, by omega⟩
  obtain ⟨d, rfl⟩ : ∃ e, d = e + 1 := ⟨d - 1, by omega⟩
  have hroom : S.2.1 + 1 ≤ S.2.2.2.1 ∧ S.2.2.1 + 2 ≤ S.2.2.2.2 := by unfold rm at hr; omega
  have hnew : xnew S 1 [.null, .null] = some (S.2.1, xpush S (kcell none none) 2) := if_pos hroom
  have hsT := hs.1
  obtain ⟨h0, ⟨sp, ys, h1, h2, h3, h4⟩, h5, h6⟩ := hs
  have hTlt : T < S.2.1 := by
    rcases Nat.lt_or_ge T S.2.1 with g | g
    · exact g
    · rw [h6 T g] at h1; cases h1
  have fp : ∀ b, b < S.2.1 → (xpush S (kcell none none) 2).1 b = S.1 b := fun b hb => va_up_ne _ _ (by omega)
  have hk : (xpush S (kcell none none) 2).1 S.2.1 = some (kcell none none) := va_up_self _ _ _
  have ltx : ∀ b ∈ ads xs, b < S.2.1 := fun b hb => h5 b (.inr hb)
  have hys : ∀ b ∈ ys, b < S.2.1 := fun b hb => by
    obtain ⟨_, _, _, _, _, _, _, _, e⟩ := spr_cell h2 b hb
    rcases Nat.lt_or_ge b S.2.1 with g | g
    · exact g
    · rw [h6 b g] at e; cases e
  have hs1 : St (xpush S (kcell none none) 2) T (un F (S.2.1 :: ads xs)) := by
    refine ⟨?_, ⟨sp, ys, by rw [fp T hTlt, h1], spr_kept h2 fun b hb => fp b (hys b hb), h3, ?_⟩, ?_, ?_⟩
    · rintro (g | g)
      · exact h0 (.inl g)
      · rcases List.mem_cons.mp g with g | g
        · omega
        · exact h0 (.inr g)
    · intro a ha g
      rcases g with g | g
      · exact h4 a ha (.inl g)
      · rcases List.mem_cons.mp g with g | g
        · have := hys a ha; omega
        · exact h4 a ha (.inr g)
    · rintro b (g | g)
      · have := h5 b (.inl g)
        show b < S.2.1 + 1; omega
      · show b < S.2.1 + 1
        rcases List.mem_cons.mp g with g | g
        · omega
        · have := ltx b g; omega
    · intro b hb
      have hb' : S.2.1 + 1 ≤ b := hb
      show va_up S.1 S.2.1 _ b = _
      rw [va_up_ne _ _ (by omega)]; exact h6 b (by omega)
  have hr1 : rm (xpush S (kcell none none) 2) (n + 1) (m + 8) := by
    unfold rm at hr ⊢
    show S.2.1 + 1 + (n + 1) ≤ S.2.2.2.1 ∧ S.2.2.1 + 2 + (m + 8) ≤ S.2.2.2.2
    omega
  obtain ⟨S', l', r', hy, hz, ys', zs', f1, k1, q1, q2, q3, q4, q5, q6, q7, q8, q9, q10, q11, q12⟩ := t_partInto 40 (d := d + 1) (f := f) (F := F) (tr_kept tp fun b hb => fp b (ltx b hb)) N hn hs1 (fun a ha => ⟨hF a ha, by have := ltx a ha; omega⟩) (fun g => by have := h5 _ (.inl g); omega) hl ht hk hf cb (by have := tr_low tp (by omega); omega) (by omega) (by omega) hr1
  have hf1 : f_T_partInto (d + 1) (some T) (some S.2.1) p (nI f) 40 (xpush S (kcell none none) 2) = some ((), S') := f1
  obtain ⟨w, hw⟩ := hs1.T
  refine ⟨S', S.2.1, l', r', hy, hz, ys', zs', ?_, k1, q1, q2, q3, q4, q5, q6, q7, fun g => by have := h5 _ (.inl g); omega, q8, q9, fun b hb => by rw [q10 b hb, fp b (h5 b (.inl hb))], q11, q12⟩
  show e_T_part (d + 1) (some T) p (nI f) S = _
  simp only [e_T_part, hnew, Option.bind_some, f_H_init, e_H_init, xcase_some, hw, hf1]
