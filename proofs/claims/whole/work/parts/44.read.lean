/-! LENGTH, LOOK, PIECE, FIND, DIFFER, COUNT -/
def olen (C : Nat → List chr) (t : Int32) (r : Int32) : Prop := (¬ tx t ∧ r = -1) ∨ ∃ j, j < 16 ∧ t = nI j ∧ r = nI (C j).length
section RD
variable {S : xS} {x nb d n m : Nat} {C : Nat → List chr} {bs : Nat → Int32} {G : Nat → Prop}
theorem c_length (h : CI S x C nb bs G) (hd : 120 < d) (t : Int32) : ∃ r, f_P_length d (some x) t S = some (r, S) ∧ olen C t r := by
  obtain ⟨d, rfl⟩ : ∃ e, d = e + 1 := ⟨d - 1, by omega⟩
  obtain ⟨B, R, T, g, rts, X, h, hC, hg, w⟩ := h
  subst hC
  have h1 := h.1
  have h3 := h.2.2.1
  show ∃ r, e_P_length d (some x) t S = some (r, S) ∧ _
  rcases tx_cases t with ⟨cb0, nc⟩ | ⟨j, hj, rfl, _, _⟩
  · refine ⟨-1, ?_, .inl ⟨nc, rfl⟩⟩
    simp only [e_P_length, gPo h1, Option.bind_some, (c_isText h1 h3 (d := d) (by omega)).1 cb0]
    rfl
  · obtain ⟨Rw, r1, r2, r3⟩ := CX_row h w hj
    refine ⟨nI (tot (X j)), ?_, .inr ⟨j, hj, rfl, by rw [chs_len]⟩⟩
    have e := (c_isText h1 h3 (d := d) (t := nI j) (by omega)).2 j hj rfl
    simp only [e_P_length, gPo h1, Option.bind_some, e, c_rootOf h1 h3 (d := d) (by omega) hj, row_chars Rw (d := d) (by omega)]
    rfl
theorem c_byteAt {B R T : Nat} {g : Nat → Int32} (h1 : S.1 x = some (pobj B nb R T)) (h2 : S.1 B = some (barr g)) (hnb : nb ≤ 2048) (hd : 0 < d) : (∀ s, s < nb → f_P_byteAt d (some x) (nI s) S = some (g s &&& 255, S)) ∧ f_P_byteAt d (some x) (-1) S = some (0, S) := by
  obtain ⟨d, rfl⟩ : ∃ e, d = e + 1 := ⟨d - 1, by omega⟩
  constructor
  · intro s hs
    show e_P_byteAt d (some x) (nI s) S = _
    have lB : xlen S (some B) 0 = some (nI 2048) := by simp [xlen, xarr, h2, barr]; rfl
    have ldB : xldI S (some B) 0 (nI s) = some (g s) := by
      simp only [xldI, xarr_of h2, Option.bind_some]
      rw [if_pos (nI_in (show s < 2048 by omega) (by omega)), nI_clamp (by omega)]
    simp only [e_P_byteAt, b_P_byteAt_35, gP1 h1, gP0 h1, lB, ldB, Option.bind_some, if_neg (nI_pos (show s < 2 ^ 31 by omega)), if_neg (nI_ge (show s < nb by omega) (by omega)), if_pos (nI_lt (show s < 2048 by omega) (by omega))]
  · show e_P_byteAt d (some x) (-1) S = _
    simp only [e_P_byteAt]
    rw [if_pos (by decide)]
    rfl
def olook (C : Nat → List chr) (bs : Nat → Int32) (t a what : Int32) (r : Int32 ⊕ Nat) : Prop :=
  (¬ (tx t ∧ 0 ≤ a.toInt ∧ a.toInt < ((C t.toInt.toNat).length : Int)) ∧ r = .inr 2) ∨ ∃ j k y, j < 16 ∧ t = nI j ∧ a = nI k ∧ (C j)[k]? = some y ∧
    ((what = 0 ∧ r = .inl (bs y.1)) ∨ (what = 1 ∧ r = .inl (nI y.1)) ∨ (what = 2 ∧ r = .inl y.2) ∨ (what = 3 ∧ r = .inl (nI (np none ((C j).take (k + 1)) - 1))) ∨ (what ≠ 0 ∧ what ≠ 1 ∧ what ≠ 2 ∧ what ≠ 3 ∧ r = .inr 0))
theorem c_look (h : CI S x C nb bs G) (hd : 120 < d) (hr : rm S (n + 100) (m + 800)) (t a what : Int32) :
    ∃ r S', f_P_look d (some x) t a what S = some (r, S') ∧ olook C bs t a what r ∧ CI S' x C nb bs G ∧ (∀ b, G b → S'.1 b = S.1 b) ∧ rm S' n m := by
  obtain ⟨d, rfl⟩ : ∃ e, d = e + 1 := ⟨d - 1, by omega⟩
  have hCI := h
  obtain ⟨B, R, T, g, rts, X, h, hC, hg, w⟩ := h
  subst hC
  have h1 := h.1
  have h3 := h.2.2.1
  have hrs : rm S (n + 1) (m + 6) := hr.less (by omega) (by omega)
  have hrn : rm S n m := hr.less (by omega) (by omega)
  have hskip : CI (xskip S 6) x (fun t => chs (X t)) nb bs G := ⟨B, R, T, g, rts, X, h.skip 6, rfl, hg, w⟩
  show ∃ r S', e_P_look d (some x) t a what S = some (r, S') ∧ _
  rcases tx_cases t with ⟨cb0, nc⟩ | ⟨j, hj, rfl, e1, e2⟩
  · refine ⟨.inr 2, xskip S 6, ?_, .inl ⟨fun g => nc g.1, rfl⟩, hskip, fun _ _ => rfl, hrs.skip⟩
    simp only [e_P_look, gPo h1, Option.bind_some, xtry, (c_text h1 h3 (d := d) (by omega) hrs).1 cb0]
  have e3 := (c_text h1 h3 (d := d) (t := nI j) (by omega) hrs).2 j hj rfl
  obtain ⟨Rw, r1, r2, r3⟩ := CX_row h w hj
  obtain ⟨w1, w2, w3, w4⟩ := id w
  dsimp only at w1 w2 w3
  simp only [e_P_look, gPo h1, Option.bind_some, xtry, e3, c_rootOf h1 h3 (d := d) (by omega) hj, b_P_look_25, row_chars Rw (d := d) (by omega)]
  have a0 : (0 : Int32).toInt = 0 := rfl
  by_cases c : a < 0
  · rw [if_pos c]
    exact ⟨.inr 2, xskip S 6, thr (by omega) hrs, .inl ⟨fun g => by have := g.2.1; rw [Int32.lt_iff_toInt_lt] at c; omega, rfl⟩, hskip, fun _ _ => rfl, hrs.skip⟩
  rw [if_neg c]
  obtain ⟨k, hk, rfl⟩ := nI_of c
  rw [iflt hk (by omega)]
  by_cases c2 : k < tot (X j)
  rotate_left 1
  · rw [if_neg c2]
    refine ⟨.inr 2, xskip S 6, thr (by omega) hrs, .inl ⟨fun g => c2 ?_, rfl⟩, hskip, fun _ _ => rfl, hrs.skip⟩
    have := g.2.2
    rw [e2, nI_toInt hk] at this
    dsimp only at this
    rw [chs_len] at this; omega
  rw [if_pos c2]
  obtain ⟨y, hy⟩ : ∃ y, (chs (X j))[k]? = some y := ⟨_, List.getElem?_eq_getElem (by rw [chs_len]; omega)⟩
  have hyb := w3 j hj y (List.mem_of_getElem? hy)
  have ht := np_take (p := k) Rw.2.1 c2
  by_cases q0 : what = 0
  · subst q0
    refine ⟨.inl (g y.1 &&& 255), S, ?_, .inr ⟨j, k, y, hj, rfl, rfl, hy, .inl ⟨rfl, by rw [hg _ hyb]⟩⟩, hCI, fun _ _ => rfl, hrn⟩
    rw [if_pos rfl]
    simp only [r_source Rw (d := d) (by omega) hy, Option.bind_some, gPo h1, (c_byteAt h1 h.2.1 w4 (d := d) (by omega)).1 y.1 hyb]
  rw [if_neg q0]
  by_cases q1 : what = 1
  · subst q1
    refine ⟨.inl (nI y.1), S, ?_, .inr ⟨j, k, y, hj, rfl, rfl, hy, .inr (.inl ⟨rfl, rfl⟩)⟩, hCI, fun _ _ => rfl, hrn⟩
    rw [if_pos rfl]
    simp only [r_source Rw (d := d) (by omega) hy, Option.bind_some]
  rw [if_neg q1]
  by_cases q2 : what = 2
  · subst q2
    refine ⟨.inl y.2, S, ?_, .inr ⟨j, k, y, hj, rfl, rfl, hy, .inr (.inr (.inl ⟨rfl, rfl⟩))⟩, hCI, fun _ _ => rfl, hrn⟩
    rw [if_pos rfl]
    simp only [r_tag Rw (d := d) (by omega) hy, Option.bind_some]
  rw [if_neg q2]
  by_cases q3 : what = 3
  · subst q3
    refine ⟨.inl (nI (ord (X j) k)), S, ?_, .inr ⟨j, k, y, hj, rfl, rfl, hy, .inr (.inr (.inr (.inl ⟨rfl, by rw [ht, Nat.add_sub_cancel]⟩)))⟩, hCI, fun _ _ => rfl, hrn⟩
    rw [if_pos rfl]
    simp only [row_ord Rw (d := d) (p := k) (by omega) (by omega), Option.bind_some]
  rw [if_neg q3]
  exact ⟨.inr 0, xskip S 6, thr (by omega) hrs, .inr ⟨j, k, y, hj, rfl, rfl, hy, .inr (.inr (.inr (.inr ⟨q0, q1, q2, q3, rfl⟩)))⟩, hskip, fun _ _ => rfl, hrs.skip⟩
/-- piece k of a list of characters -/
def pc (L : List chr) (k p s z : Nat) (t : Int32) : Prop := 0 < z ∧ p + z ≤ L.length ∧ np none (L.take p) = k ∧ mq (lst none (L.take p)) (s, t) = 1 ∧ (∀ i, i < z → L[p + i]? = some (s + i, t)) ∧ ∀ c, L[p + z]? = some c → mq (some (s + z - 1, t)) c = 1
theorem pc_of {xs : List nd} (hn : nrm none xs) {k : Nat} {y : nd} (hy : xs[k]? = some y) : pc (chs xs) k (beg xs k) y.2.1 y.2.2.1 y.2.2.2 := by
  have hk := (List.getElem?_eq_some_iff.mp hy).1
  have ex : xs = xs.take k ++ y :: xs.drop (k + 1) := by
    have e1 := (List.take_append_drop k xs).symm
    rw [List.drop_eq_getElem_cons hk] at e1
    rw [List.getElem?_eq_getElem hk] at hy
    cases hy
    exact e1
  have n2 := hn
  rw [ex] at n2
  obtain ⟨nA, n3⟩ := (nrm_app _ _ _).mp n2
  have eA : (chs xs).take (beg xs k) = chs (xs.take k) := by
    conv => lhs; rw [ex, chs_app]
    have : beg (xs.take k ++ y :: xs.drop (k + 1)) k = (chs (xs.take k)).length := by rw [← ex, chs_len]; rfl
    rw [this, List.take_left']
    rfl
  refine ⟨n3.1, by rw [chs_len]; exact beg_lt hy, ?_, ?_, beg_chs hy, fun c hc => ?_⟩
  · rw [eA, nrm_np nA, List.length_take]; omega
  · rw [eA]; exact n3.2.1
  · have n4 := n3.2.2
    have e2 : (chs xs)[beg xs k + y.2.2.1]? = (chs (xs.drop (k + 1)))[0]? := by
      conv => lhs; rw [ex, chs_app]
      have : beg (xs.take k ++ y :: xs.drop (k + 1)) k = (chs (xs.take k)).length := by rw [← ex, chs_len]; rfl
      rw [this, List.getElem?_append_right (by omega)]
      show (run _ _ _ ++ chs (xs.drop (k + 1)))[_]? = _
      rw [List.getElem?_append_right (by rw [run_len]; omega), run_len]
      congr 1; omega
    rw [e2] at hc
    cases hd : xs.drop (k + 1) with
    | nil => rw [hd] at hc; simp [chs] at hc
    | cons z zs =>
      rw [hd] at hc n4
      rw [← List.head?_eq_getElem?, chs_head n4.1] at hc
      cases hc
      exact n4.2.1
def opiece (C : Nat → List chr) (t k what : Int32) (r : Int32 ⊕ Nat) : Prop :=
  (¬ (tx t ∧ 0 ≤ k.toInt ∧ k.toInt < (np none (C t.toInt.toNat) : Int)) ∧ r = .inr 2) ∨ ∃ j q p s z tg, j < 16 ∧ t = nI j ∧ k = nI q ∧ q < np none (C j) ∧ pc (C j) q p s z tg ∧
    ((what = 0 ∧ r = .inl (nI p)) ∨ (what = 1 ∧ r = .inl (nI s)) ∨ (what = 2 ∧ r = .inl (nI z)) ∨ (what = 3 ∧ r = .inl tg) ∨ (what ≠ 0 ∧ what ≠ 1 ∧ what ≠ 2 ∧ what ≠ 3 ∧ r = .inr 0))
theorem c_piece (h : CI S x C nb bs G) (hd : 120 < d) (hr : rm S (n + 100) (m + 800)) (t k what : Int32) :
    ∃ r S', f_P_piece d (some x) t k what S = some (r, S') ∧ opiece C t k what r ∧ CI S' x C nb bs G ∧ (∀ b, G b → S'.1 b = S.1 b) ∧ rm S' n m := by
  obtain ⟨d, rfl⟩ : ∃ e, d = e + 1 := ⟨d - 1, by omega⟩
  have hCI := h
  obtain ⟨B, R, T, g, rts, X, h, hC, hg, w⟩ := h
  subst hC
  have h1 := h.1
  have h3 := h.2.2.1
  have hrs : rm S (n + 1) (m + 6) := hr.less (by omega) (by omega)
  have hrn : rm S n m := hr.less (by omega) (by omega)
  have hskip : CI (xskip S 6) x (fun t => chs (X t)) nb bs G := ⟨B, R, T, g, rts, X, h.skip 6, rfl, hg, w⟩
  show ∃ r S', e_P_piece d (some x) t k what S = some (r, S') ∧ _
  rcases tx_cases t with ⟨cb0, nc⟩ | ⟨j, hj, rfl, e1, e2⟩
  · refine ⟨.inr 2, xskip S 6, ?_, .inl ⟨fun g => nc g.1, rfl⟩, hskip, fun _ _ => rfl, hrs.skip⟩
    simp only [e_P_piece, gPo h1, Option.bind_some, xtry, (c_text h1 h3 (d := d) (by omega) hrs).1 cb0]
  have e3 := (c_text h1 h3 (d := d) (t := nI j) (by omega) hrs).2 j hj rfl
  obtain ⟨Rw, r1, r2, r3⟩ := CX_row h w hj
  obtain ⟨⟨hh, T'⟩, nn, _, _⟩ := id Rw
  have npx := row_np Rw
  simp only [e_P_piece, gPo h1, Option.bind_some, xtry, e3, c_rootOf h1 h3 (d := d) (by omega) hj]
  by_cases c : k.toInt < 0 ∨ ((X j).length : Int) ≤ k.toInt
  · refine ⟨.inr 2, xskip S 6, ?_, .inl ⟨fun g => ?_, rfl⟩, hskip, fun _ _ => rfl, hrs.skip⟩
    · simp only [r_numX T' (d := d) (by omega) (by omega) c, Option.bind_some, xcase_none]
      exact thr (by omega) hrs
    · have g1 := g.2
      rw [e2] at g1
      dsimp only at g1
      rw [npx] at g1
      omega
  obtain ⟨q, hq, rfl⟩ := nI_of (x := k) (by rw [Int32.lt_iff_toInt_lt]; show ¬ k.toInt < 0; omega)
  rw [nI_toInt hq] at c
  obtain ⟨y, hy⟩ : ∃ y, (X j)[q]? = some y := ⟨_, List.getElem?_eq_getElem (by omega)⟩
  obtain ⟨ly, qy, iy, jy, ky, hcy⟩ := tr_cell T' y (List.mem_of_getElem? hy)
  have hpc := pc_of nn hy
  have hqn : q < np none (chs (X j)) := by rw [npx]; omega
  simp only [row_num Rw (d := d) (k := q) (by omega) (by omega), hy, Option.map_some, Option.bind_some, xcase_some]
  by_cases q0 : what = 0
  · subst q0
    refine ⟨.inl (nI (beg (X j) q)), S, ?_, .inr ⟨j, q, _, _, _, _, hj, rfl, rfl, hqn, hpc, .inl ⟨rfl, rfl⟩⟩, hCI, fun _ _ => rfl, hrn⟩
    rw [if_pos rfl]
    simp only [row_start Rw (d := d) (k := q) (by omega) (by omega), Option.bind_some]
  rw [if_neg q0]
  by_cases q1 : what = 1
  · subst q1
    refine ⟨.inl (nI y.2.1), S, ?_, .inr ⟨j, q, _, _, _, _, hj, rfl, rfl, hqn, hpc, .inr (.inl ⟨rfl, rfl⟩)⟩, hCI, fun _ _ => rfl, hrn⟩
    rw [if_pos rfl]
    simp only [gI0 hcy, Option.bind_some]
  rw [if_neg q1]
  by_cases q2 : what = 2
  · subst q2
    refine ⟨.inl (nI y.2.2.1), S, ?_, .inr ⟨j, q, _, _, _, _, hj, rfl, rfl, hqn, hpc, .inr (.inr (.inl ⟨rfl, rfl⟩))⟩, hCI, fun _ _ => rfl, hrn⟩
    rw [if_pos rfl]
    simp only [gI1 hcy, Option.bind_some]
  rw [if_neg q2]
  by_cases q3 : what = 3
  · subst q3
    refine ⟨.inl y.2.2.2, S, ?_, .inr ⟨j, q, _, _, _, _, hj, rfl, rfl, hqn, hpc, .inr (.inr (.inr (.inl ⟨rfl, rfl⟩)))⟩, hCI, fun _ _ => rfl, hrn⟩
    rw [if_pos rfl]
    simp only [gI2 hcy, Option.bind_some]
  rw [if_neg q3]
  exact ⟨.inr 0, xskip S 6, thr (by omega) hrs, .inr ⟨j, q, _, _, _, _, hj, rfl, rfl, hqn, hpc, .inr (.inr (.inr (.inr ⟨q0, q1, q2, q3, rfl⟩)))⟩, hskip, fun _ _ => rfl, hrs.skip⟩
def ocount (C : Nat → List chr) (nb : Nat) (what : Int32) (r : Int32) : Prop :=
  (what = 0 ∧ r = nI nb) ∨ (what = 1 ∧ r = nI (sm (fun t => (C t).length) 16)) ∨ (what = 2 ∧ r = nI (sm (fun t => np none (C t)) 16)) ∨ (what = 3 ∧ r = 1) ∨ (what ≠ 0 ∧ what ≠ 1 ∧ what ≠ 2 ∧ what ≠ 3 ∧ r = -1)
theorem c_shallow0 {R : Nat} {rts : Nat → Option Nat} {X : Nat → List nd} (h3 : S.1 R = some (rarr rts)) (h4 : ∀ t, t < 16 → row S (rts t) (X t)) (hd : 1 < d) : ∀ n k, k ≤ 16 → 16 - k < n → l_P_allShallow_10 d n (some R) (nI 16) (nI k) S = some (1, S) := by
  intro n
  induction n with
  | zero => intro k _ h; omega
  | succ n ih =>
    intro k hk hn
    show b_P_allShallow_10 d (l_P_allShallow_10 d n) _ _ _ S = _
    simp only [b_P_allShallow_10]
    rw [ifle (by omega) (by omega)]
    by_cases c : 16 ≤ k
    · rw [if_pos c]; rfl
    · rw [if_neg c]
      simp only [ldR h3 (show k < 16 by omega), r_shallow (h4 k (by omega)) hd, Option.bind_some, nI_1]
      rw [if_neg (by decide)]
      exact ih (k + 1) (by omega) (by omega)
theorem c_count (h : CI S x C nb bs G) (hd : 120 < d) (what : Int32) : ∃ r, f_P_count d (some x) what S = some (r, S) ∧ ocount C nb what r := by
  obtain ⟨d, rfl⟩ : ∃ e, d = e + 1 := ⟨d - 1, by omega⟩
  obtain ⟨B, R, T, g, rts, X, h, hC, hg, w⟩ := h
  subst hC
  have h1 := h.1
  have h3 := h.2.2.1
  show ∃ r, e_P_count d (some x) what S = some (r, S) ∧ _
  simp only [e_P_count, gPo h1, gP1 h1, Option.bind_some, c_charsAll h (d := d) (by omega), c_piecesAll h (d := d) (by omega)]
  by_cases q0 : what = 0
  · subst q0
    exact ⟨_, if_pos rfl, .inl ⟨rfl, rfl⟩⟩
  rw [if_neg q0]
  by_cases q1 : what = 1
  · subst q1
    exact ⟨_, if_pos rfl, .inr (.inl ⟨rfl, rfl⟩)⟩
  rw [if_neg q1]
  by_cases q2 : what = 2
  · subst q2
    exact ⟨_, if_pos rfl, .inr (.inr (.inl ⟨rfl, rfl⟩))⟩
  rw [if_neg q2]
  by_cases q3 : what = 3
  · subst q3
    refine ⟨1, ?_, .inr (.inr (.inr (.inl ⟨rfl, rfl⟩)))⟩
    rw [if_pos rfl]
    have hs : f_P_allShallow d (some x) S = some (1, S) := by
      obtain ⟨d, rfl⟩ : ∃ e, d = e + 1 := ⟨d - 1, by omega⟩
      show e_P_allShallow d (some x) S = _
      simp only [e_P_allShallow, gP2 h1, lR h3, Option.bind_some]
      exact c_shallow0 (X := X) (d := d) h3 (fun t ht => (CX_row h w ht).1) (by omega) xN 0 (by omega) (by unfold xN; omega)
    simp only [hs, Option.bind_some]
    rw [if_neg (by decide)]
    rfl
  rw [if_neg q3]
  exact ⟨-1, rfl, .inr (.inr (.inr (.inr ⟨q0, q1, q2, q3, rfl⟩)))⟩
end RD
