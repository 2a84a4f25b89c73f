/-! TAGGING A ROW; GIVING A ROW BACK -/
def tgf (mask bits t : Int32) : Int32 := (t &&& (mask ^^^ (-1))) ||| (bits &&& mask)
def tgc (mask bits : Int32) (c : chr) : chr := (c.1, tgf mask bits c.2)
theorem tgc_run (mask bits : Int32) (s z : Nat) (t : Int32) : (run s z t).map (tgc mask bits) = run s z (tgf mask bits t) := by
  simp [run, tgc]
theorem f_tagged {d : Nat} (hd : 0 < d) (t mask bits : Int32) (S : xS) : f_Y_tagged d t mask bits S = some (tgf mask bits t, S) := by
  obtain ⟨d, rfl⟩ : ∃ e, d = e + 1 := ⟨d - 1, by omega⟩
  rfl
theorem t_retag (mask bits : Int32) (v : Nat) : ∀ {S : xS} {T d h : Nat} {p : Option Nat} {xs : List nd} {F : Nat → Prop}, tr S.1 h p xs → (ads xs).Nodup → (∀ x ∈ xs, 0 < x.2.2.1) → St S T (un F (ads xs)) → (∀ a ∈ ads xs, ¬ F a) → xs.length < 1999 → (∀ c ∈ chs xs, c.1 < 4096) → h ≤ v → v ≤ 40 → 70 + v < d →
    ∃ (S' : xS) (r' : Option Nat) (h' : Nat) (zs : List nd), f_T_retag d (some T) p mask bits (nI v) S = some (r', S') ∧ tr S'.1 h' r' zs ∧ nrm none zs ∧ chs zs = (chs xs).map (tgc mask bits) ∧ (ads zs).Nodup ∧ (∀ a ∈ ads zs, a ∈ ads xs) ∧ St S' T (un F (ads zs)) ∧ (∀ b, F b → S'.1 b = S.1 b) ∧ S'.2 = S.2 ∧ zs.length ≤ xs.length := by
  induction v with
  | zero =>
    intro S T d h p xs F tp N hn hs hF hl cb hv _ hd
    have h0 : h = 0 := by omega
    subst h0
    obtain ⟨rfl, rfl⟩ := tr_zero tp
    obtain ⟨d, rfl⟩ : ∃ e, d = e + 1 := ⟨d - 1, by omega⟩
    exact ⟨S, none, 0, [], rfl, tr_nil _, trivial, rfl, N, (fun a ha => nomatch ha), hs, fun _ _ => rfl, rfl, Nat.le_refl _⟩
  | succ v ih =>
    intro S T d h p xs F tp N hn hs hF hl cb hv hv' hd
    obtain ⟨d, rfl⟩ : ∃ e, d = e + 1 := ⟨d - 1, by omega⟩
    rcases tr_inv tp with ⟨rfl, rfl, rfl⟩ | ⟨a, s, z, t, l, q, h1, h2, xl, xr, rfl, rfl, rfl, ha, g1, g2, tl, tq⟩
    · exact ⟨S, none, 0, [], rfl, tr_nil _, trivial, rfl, N, (fun a ha => nomatch ha), hs, fun _ _ => rfl, rfl, Nat.le_refl _⟩
    show ∃ S' r' h' zs, e_T_retag d (f_T_retag d) (some T) (some a) mask bits (nI (v + 1)) S = some (r', S') ∧ _
    have c0 : (1 : Int32) ≤ nI (v + 1) := nI_le (a := 1) (by omega) (by omega)
    simp only [List.length_append, List.length_cons] at hl
    obtain ⟨o, ho⟩ := hs.T
    simp only [e_T_retag, xcase_some, if_pos c0, gR3 ha, Option.bind_some, nI_pred, ho]
    obtain ⟨n1, n2, n3, n4, n5⟩ := nup N
    simp only at n3 n4
    have memx : ∀ e, (e ∈ ads xl ∨ e = a ∨ e ∈ ads xr) → e ∈ ads (xl ++ (a, s, z, t) :: xr) := fun e he => by
      rw [ads_app, ads_c4, List.mem_append, List.mem_cons]; exact he
    have zp : 0 < z := hn (a, s, z, t) (by simp)
    have cbl : ∀ c ∈ chs xl, c.1 < 4096 := fun c hc => cb c (by rw [chs_app]; exact List.mem_append_left _ hc)
    have cbm : ∀ c ∈ run s z t, c.1 < 4096 := fun c hc => cb c (by rw [chs_app]; refine List.mem_append_right _ ?_; show c ∈ run _ _ _ ++ chs xr; exact List.mem_append_left _ hc)
    have cbr : ∀ c ∈ chs xr, c.1 < 4096 := fun c hc => cb c (by rw [chs_app]; refine List.mem_append_right _ ?_; show c ∈ run _ _ _ ++ chs xr; exact List.mem_append_right _ hc)
    have mapc : ∀ {L M : List chr}, M = L.map (tgc mask bits) → (∀ c ∈ L, c.1 < 4096) → ∀ c ∈ M, c.1 < 4096 := fun e h c hc => by
      rw [e, List.mem_map] at hc
      obtain ⟨x, hx, rfl⟩ := hc
      exact h x hx
    obtain ⟨S1, r1, k1, zl, f1, t1, q1, e1, N1, M1, s1, fr1, m1, l1⟩ := ih (F := fun b => F b ∨ b ∈ ads ((a, s, z, t) :: xr)) (d := d) tl n1 (fun x hx => hn x (by simp [hx])) (hs.less fun b hb => by
        rcases hb with (g | g) | g
        · exact .inl g
        · rw [ads_c4, List.mem_cons] at g
          exact .inr (memx b (.inr g))
        · exact .inr (memx b (.inl g))) (fun e he g => by
        rcases g with g | g
        · exact hF e (memx e (.inl he)) g
        · rw [ads_c4, List.mem_cons] at g
          rcases g with g | g
          · exact n3 (by rw [← g]; exact he)
          · exact n5 e he g) (by omega) cbl (by omega) (by omega) (by omega)
    have ha1 := (fr1 a (.inr (by rw [ads_c4]; simp))).trans ha
    have tq1 : tr S1.1 h2 q xr := tr_kept tq fun b hb => fr1 b (.inr (by rw [ads_c4]; exact List.mem_cons_of_mem _ hb))
    obtain ⟨o1, ho1⟩ := s1.T
    simp only [f1, Option.bind_some, gR4 ha1, ho1]
    obtain ⟨S2, r2, k2, zr, f2, t2, q2, e2, N2, M2, s2, fr2, m2, l2⟩ := ih (F := fun b => F b ∨ b ∈ ads (zl ++ [(a, s, z, t)])) (d := d) tq1 n2 (fun x hx => hn x (by simp [hx])) (s1.less fun b hb => by
        rcases hb with (g | g) | g
        · exact .inl (.inl g)
        · rw [ads_app, ads_c4, List.mem_append, List.mem_cons] at g
          rcases g with g | g | g
          · exact .inr g
          · exact .inl (.inr (by rw [ads_c4]; simp [g]))
          · cases g
        · exact .inl (.inr (by rw [ads_c4]; exact List.mem_cons_of_mem _ g))) (fun e he g => by
        rcases g with g | g
        · exact hF e (memx e (.inr (.inr he))) g
        · rw [ads_app, ads_c4, List.mem_append, List.mem_cons] at g
          rcases g with g | g | g
          · exact n5 e (M1 e g) he
          · exact n4 (by rw [← g]; exact he)
          · cases g) (by omega) cbr (by omega) (by omega) (by omega)
    have ha2 := (fr2 a (.inr (by rw [ads_app, ads_c4]; simp))).trans ha1
    have tl2 : tr S2.1 k1 r1 zl := tr_kept t1 fun b hb => fr2 b (.inr (by rw [ads_app]; exact List.mem_append_left _ hb))
    simp only [f2, Option.bind_some, gI2 ha2, f_tagged (d := d) (by omega), pP2 ha2, t_alone (xset_at _ _ _) (d := d) (by omega), xset_two]
    have sx : ∀ b, b ≠ a → (xset S2 a (pcell (nI s) (nI z) (tgf mask bits t) none none (nI 1) (nI 1) (nI z))).1 b = S2.1 b := fun b hb => xset_ne _ hb
    have ta := tr_one (H := (xset S2 a (pcell (nI s) (nI z) (tgf mask bits t) none none (nI 1) (nI 1) (nI z))).1) (xset_at S2 a (pcell (nI s) (nI z) (tgf mask bits t) none none (nI 1) (nI 1) (nI z)))
    have m3 : (xset S2 a (pcell (nI s) (nI z) (tgf mask bits t) none none (nI 1) (nI 1) (nI z))).2 = S2.2 := rfl
    generalize xset S2 a (pcell (nI s) (nI z) (tgf mask bits t) none none (nI 1) (nI 1) (nI z)) = S3 at sx ta m3 ⊢
    have nal : a ∉ ads zl := fun g => n3 (M1 a g)
    have nar : a ∉ ads zr := fun g => n4 (M2 a g)
    have nlr : ∀ e ∈ ads zl, e ∉ ads zr := fun e he g => n5 e (M1 e he) (M2 e g)
    have tl3 : tr S3.1 k1 r1 zl := tr_kept tl2 fun b hb => sx b (fun g => nal (by rw [← g]; exact hb))
    have tr3 : tr S3.1 k2 r2 zr := tr_kept t2 fun b hb => sx b (fun g => nar (by rw [← g]; exact hb))
    have s3 : St S3 T (un (fun b => F b ∨ b ∈ ads zr) (ads (zl ++ [(a, s, z, tgf mask bits t)]))) := by
      refine St.kept (S := S2) (s2.less fun b hb => ?_) m3 fun b hb => sx b fun g => hb (.inr (by rw [ads_app, g]; simp [ads]))
      rcases hb with (g | g) | g
      · exact .inl (.inl g)
      · exact .inr g
      · exact .inl (.inr (by rw [ads_app] at g ⊢; exact g))
    obtain ⟨o3, ho3⟩ := s3.T
    simp only [ho3, Option.bind_some]
    obtain ⟨r4, S4, z4, k4, f4, t4, q4, e4, N4, M4, s4, fr4, m4, l4⟩ := t_meet (d := d) (F := fun b => F b ∨ b ∈ ads zr) tl3 ta (by
        rw [ads_app, List.nodup_append]
        exact ⟨N1, by simp [ads], fun e he g hg h => by simp [ads] at hg; subst hg h; exact nal he⟩) q1 ⟨zp, rfl, trivial⟩ s3 (fun e he g => by
        rw [ads_app, List.mem_append] at he
        rcases he with he | he
        · rcases g with g | g
          · exact hF e (memx e (.inl (M1 e he))) g
          · exact nlr e he g
        · simp [ads] at he
          subst he
          rcases g with g | g
          · exact hF e (memx e (.inr (.inl rfl))) g
          · exact nar g) (by simp only [List.length_cons, List.length_nil]; omega) (fun c hc => by
        rw [chs_app, List.mem_append] at hc
        rcases hc with g | g
        · exact mapc e1 cbl c g
        · have g' : c ∈ run s z (tgf mask bits t) := by simpa [chs] using g
          exact mapc (tgc_run mask bits s z t).symm cbm c g') (by omega)
    obtain ⟨o4, ho4⟩ := s4.T
    simp only [f4, ho4, Option.bind_some]
    have M4' : ∀ e ∈ ads z4, e ∈ ads zl ∨ e = a := fun e he => by
      have := M4 e he
      rw [ads_app, List.mem_append] at this
      exact this.imp id fun g => by simpa [ads] using g
    have tr4 : tr S4.1 k2 r2 zr := tr_kept tr3 fun b hb => fr4 b (.inr hb)
    have N45 : (ads (z4 ++ zr)).Nodup := by
      rw [ads_app, List.nodup_append]
      refine ⟨N4, N2, fun e he g hg h => ?_⟩
      subst h
      rcases M4' e he with g | g
      · exact nlr e g hg
      · exact nar (by rw [← g]; exact hg)
    obtain ⟨r5, S5, z5, k5, f5, t5, q5, e5, N5, M5, s5, fr5, m5, l5⟩ := t_meet (d := d) (F := F) t4 tr4 N45 q4 q2 (s4.less fun b hb => by
        rcases hb with g | g
        · exact .inl (.inl g)
        · rw [ads_app, List.mem_append] at g
          rcases g with g | g
          · exact .inr g
          · exact .inl (.inr g)) (fun e he g => by
        rw [ads_app, List.mem_append] at he
        rcases he with he | he
        · rcases M4' e he with h | h
          · exact hF e (memx e (.inl (M1 e h))) g
          · exact hF e (memx e (.inr (.inl h))) g
        · exact hF e (memx e (.inr (.inr (M2 e he)))) g) (by simp only [List.length_cons, List.length_nil] at l4; omega) (fun c hc => by
        rw [chs_app, List.mem_append] at hc
        rcases hc with g | g
        · rw [e4, List.mem_append] at g
          rcases g with g | g
          · exact mapc e1 cbl c g
          · have g' : c ∈ run s z (tgf mask bits t) := by simpa [chs] using g
            exact mapc (tgc_run mask bits s z t).symm cbm c g'
        · exact mapc e2 cbr c g) (by omega)
    simp only [f5, Option.bind_some]
    simp only [List.length_cons, List.length_nil] at l4
    refine ⟨S5, r5, k5, z5, rfl, t5, q5, ?_, N5, ?_, s5, ?_, by rw [m5, m4, m3, m2, m1], by simp only [List.length_append, List.length_cons]; omega⟩
    · rw [e5, e4, e1, e2, chs_app, List.map_append]
      show _ ++ (run s z (tgf mask bits t) ++ []) ++ _ = _ ++ (run s z t ++ chs xr).map _
      rw [List.map_append, tgc_run]; simp
    · intro e he
      have := M5 e he
      rw [ads_app, List.mem_append] at this
      rcases this with g | g
      · rcases M4' e g with h | h
        · exact memx e (.inl (M1 e h))
        · exact memx e (.inr (.inl h))
      · exact memx e (.inr (.inr (M2 e g)))
    · intro b hb
      rw [fr5 b hb, fr4 b (.inl hb), sx b (fun g => hF a (memx a (.inr (.inl rfl))) (by rw [← g]; exact hb)), fr2 b (.inl hb), fr1 b (.inl hb)]
theorem t_giveAll (v : Nat) : ∀ {S : xS} {T d h : Nat} {p : Option Nat} {xs : List nd} {F : Nat → Prop}, tr S.1 h p xs → (ads xs).Nodup → St S T (un F (ads xs)) → (∀ a ∈ ads xs, ¬ F a) → h ≤ v → v ≤ 40 → 5 + v < d →
    ∃ S', f_T_giveBackAll d (some T) p (nI v) S = some ((), S') ∧ St S' T F ∧ (∀ b, F b → S'.1 b = S.1 b) ∧ S'.2 = S.2 := by
  induction v with
  | zero =>
    intro S T d h p xs F tp N hs hF hv _ hd
    have h0 : h = 0 := by omega
    subst h0
    obtain ⟨rfl, rfl⟩ := tr_zero tp
    obtain ⟨d, rfl⟩ : ∃ e, d = e + 1 := ⟨d - 1, by omega⟩
    exact ⟨S, rfl, hs.less fun b hb => .inl hb, fun _ _ => rfl, rfl⟩
  | succ v ih =>
    intro S T d h p xs F tp N hs hF hv hv' hd
    obtain ⟨d, rfl⟩ : ∃ e, d = e + 1 := ⟨d - 1, by omega⟩
    rcases tr_inv tp with ⟨rfl, rfl, rfl⟩ | ⟨a, s, z, t, l, q, h1, h2, xl, xr, rfl, rfl, rfl, ha, g1, g2, tl, tq⟩
    · exact ⟨S, rfl, hs.less fun b hb => .inl hb, fun _ _ => rfl, rfl⟩
    show ∃ S', e_T_giveBackAll d (f_T_giveBackAll d) (some T) (some a) (nI (v + 1)) S = some ((), S') ∧ _
    have c0 : (1 : Int32) ≤ nI (v + 1) := nI_le (a := 1) (by omega) (by omega)
    obtain ⟨o, ho⟩ := hs.T
    simp only [e_T_giveBackAll, xcase_some, if_pos c0, gR3 ha, Option.bind_some, nI_pred, ho]
    obtain ⟨n1, n2, n3, n4, n5⟩ := nup N
    simp only at n3 n4
    have memx : ∀ e, (e ∈ ads xl ∨ e = a ∨ e ∈ ads xr) → e ∈ ads (xl ++ (a, s, z, t) :: xr) := fun e he => by
      rw [ads_app, ads_c4, List.mem_append, List.mem_cons]; exact he
    obtain ⟨S1, f1, s1, fr1, m1⟩ := ih (F := fun b => F b ∨ b ∈ ads ((a, s, z, t) :: xr)) (d := d) tl n1 (hs.less fun b hb => by
        rcases hb with (g | g) | g
        · exact .inl g
        · rw [ads_c4, List.mem_cons] at g
          exact .inr (memx b (.inr g))
        · exact .inr (memx b (.inl g))) (fun e he g => by
        rcases g with g | g
        · exact hF e (memx e (.inl he)) g
        · rw [ads_c4, List.mem_cons] at g
          rcases g with g | g
          · exact n3 (by rw [← g]; exact he)
          · exact n5 e he g) (by omega) (by omega) (by omega)
    have ha1 := (fr1 a (.inr (by rw [ads_c4]; simp))).trans ha
    have tq1 : tr S1.1 h2 q xr := tr_kept tq fun b hb => fr1 b (.inr (by rw [ads_c4]; exact List.mem_cons_of_mem _ hb))
    obtain ⟨o1, ho1⟩ := s1.T
    simp only [f1, Option.bind_some, gR4 ha1, ho1]
    obtain ⟨S2, f2, s2, fr2, m2⟩ := ih (F := fun b => F b ∨ b = a) (d := d) tq1 n2 (s1.less fun b hb => by
        rcases hb with (g | g) | g
        · exact .inl g
        · exact .inr (by rw [ads_c4]; simp [g])
        · exact .inr (by rw [ads_c4]; exact List.mem_cons_of_mem _ g)) (fun e he g => by
        rcases g with g | g
        · exact hF e (memx e (.inr (.inr he))) g
        · exact n4 (by rw [← g]; exact he)) (by omega) (by omega) (by omega)
    have ha2 := (fr2 a (.inr rfl)).trans ha1
    obtain ⟨o2, ho2⟩ := s2.T
    obtain ⟨S3, f3, m3, s3, fr3⟩ := t_give (d := d) s2 ha2 (.inr rfl) (G := F) (fun b hb => .inl hb) (hF a (memx a (.inr (.inl rfl)))) (by omega)
    simp only [f2, ho2, f3, Option.bind_some]
    refine ⟨S3, rfl, s3, fun b hb => ?_, by rw [m3, m2, m1]⟩
    rw [fr3 b (fun g => hF a (memx a (.inr (.inl rfl))) (by rw [← g]; exact hb)) (fun g => hs.1 (.inl (by rw [← g]; exact hb))), fr2 b (.inl hb), fr1 b (.inl hb)]
