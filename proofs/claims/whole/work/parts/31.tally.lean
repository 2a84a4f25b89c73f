/-! HOW MANY PIECES THERE WILL BE -/
theorem lst_any {M : List chr} (h : M ≠ []) (o : Option chr) : lst o M = lst none M := by
  cases M with
  | nil => exact absurd rfl h
  | cons x M => rfl
theorem lst_at : ∀ {L : List chr} {c : chr} {o : Option chr}, L[L.length - 1]? = some c → lst o L = some c := by
  intro L
  induction L with
  | nil => intro c o h; simp at h
  | cons x L ih =>
    intro c o h
    cases L with
    | nil => simpa [lst] using h
    | cons y L =>
      exact ih (o := some x) (by simpa using h)
theorem lst_take {C : List chr} {p : Nat} {y : chr} (h : C[p]? = some y) : lst none (C.take (p + 1)) = some y := by
  have hp := (List.getElem?_eq_some_iff.mp h).1
  refine lst_at ?_
  rw [List.length_take, Nat.min_eq_left (by omega)]
  simpa using h
theorem np_three {A M B : List chr} {y w : chr} {ml mr : Nat} (hy : M.head? = some y) (hw : lst none M = some w) (h1 : ml + mq (lst none A) y = 1) (h2 : mr + np (some w) B = np none B) : np none (A ++ (M ++ B)) + ml + mr = np none A + np none M + np none B := by
  have hM : M ≠ [] := by intro e; rw [e] at hy; cases hy
  rw [np_app, np_app, lst_any hM, hw]
  have := np_none (lst none A) hy
  omega
theorem np_two {A B : List chr} {y : chr} {ml : Nat} (hy : B.head? = some y) (h1 : ml + mq (lst none A) y = 1) : np none (A ++ B) + ml = np none A + np none B := by
  rw [np_app]
  have := np_none (lst none A) hy
  omega
theorem np_head {A : List chr} {y : chr} (h : A.head? = some y) : 1 ≤ np none A := by
  cases A with
  | nil => cases h
  | cons a A => simp only [np, mq]; omega
theorem y_before {S : xS} {r : Option Nat} {xs : List nd} (R : row S r xs) {d a : Nat} (hd : 2 < d) (ha : a ≤ tot xs) : f_Y_before d r (nI a) S = some (nI (np none ((chs xs).take a)), S) := by
  obtain ⟨d, rfl⟩ : ∃ e, d = e + 1 := ⟨d - 1, by omega⟩
  have ht := R.2.2.1
  show e_Y_before d r (nI a) S = _
  simp only [e_Y_before, b_Y_before_18]
  by_cases c : 1 ≤ a
  · have c0 : (1 : Int32) ≤ nI a := nI_le (a := 1) c (by omega)
    obtain ⟨b, rfl⟩ : ∃ b, a = b + 1 := ⟨a - 1, by omega⟩
    rw [if_pos c0, nI_pred, row_ord R (d := d) (by omega) (by omega), np_take R.2.1 (by omega)]
    simp only [Option.bind_some, nI_1]
  · have e : a = 0 := by omega
    subst e
    rw [if_neg (show ¬ (1 : Int32) ≤ nI 0 by decide)]
    simp [np, nI_0]
theorem y_behind {S : xS} {r : Option Nat} {xs : List nd} (R : row S r xs) {d a : Nat} (hd : 2 < d) (ha : a < 2 ^ 30) : f_Y_behind d r (nI a) S = some (nI (np none ((chs xs).drop a)), S) := by
  obtain ⟨d, rfl⟩ : ∃ e, d = e + 1 := ⟨d - 1, by omega⟩
  show e_Y_behind d r (nI a) S = _
  have h := np_drop (p := a) R.2.1
  simp only [e_Y_behind, row_pieces R (d := d) (by omega), row_ord R (d := d) (by omega) ha, Option.bind_some]
  rw [pk_sub (by omega)]
  congr 3; omega
theorem y_left {S : xS} {r : Option Nat} {xs : List nd} (R : row S r xs) (cb : ∀ c ∈ chs xs, c.1 < 4096) {d a w : Nat} {t : Int32} (hd : 3 < d) (ha : a ≤ tot xs) (hw : w ≤ 5000) : ∃ ml, f_Y_meldsLeft d r (nI a) (nI w) t S = some (nI ml, S) ∧ ml + mq (lst none ((chs xs).take a)) (w, t) = 1 := by
  obtain ⟨d, rfl⟩ : ∃ e, d = e + 1 := ⟨d - 1, by omega⟩
  have ht := R.2.2.1
  show ∃ ml, e_Y_meldsLeft d r (nI a) (nI w) t S = _ ∧ _
  simp only [e_Y_meldsLeft, b_Y_meldsLeft_36, b_Y_meldsLeft_35]
  by_cases c : 1 ≤ a
  · have c0 : (1 : Int32) ≤ nI a := nI_le (a := 1) c (by omega)
    obtain ⟨b, rfl⟩ : ∃ b, a = b + 1 := ⟨a - 1, by omega⟩
    obtain ⟨y, hy⟩ : ∃ y, (chs xs)[b]? = some y := ⟨_, List.getElem?_eq_getElem (by rw [chs_len]; omega)⟩
    have hb := cb y (List.mem_of_getElem? hy)
    rw [if_pos c0, nI_pred, r_source R (d := d) (by omega) hy]
    simp only [Option.bind_some, r_tag R (d := d) (by omega) hy, lst_take hy, nI_1, mq]
    rw [ifeq (by omega) (by omega)]
    by_cases c1 : y.1 + 1 = w
    · rw [if_pos c1]
      by_cases c2 : y.2 = t
      · rw [if_pos c2, if_pos ⟨c1, c2⟩]; exact ⟨1, rfl, rfl⟩
      · rw [if_neg c2, if_neg (fun g => c2 g.2)]; exact ⟨0, rfl, rfl⟩
    · rw [if_neg c1, if_neg (fun g => c1 g.1)]; exact ⟨0, rfl, rfl⟩
  · have e : a = 0 := by omega
    subst e
    rw [if_neg (show ¬ (1 : Int32) ≤ nI 0 by decide)]
    exact ⟨0, rfl, rfl⟩
theorem y_right {S : xS} {r : Option Nat} {xs : List nd} (R : row S r xs) (cb : ∀ c ∈ chs xs, c.1 < 4096) {d a w : Nat} {t : Int32} (hd : 3 < d) (ha : a < 2 ^ 30) (hw : w ≤ 5000) : ∃ mr, f_Y_meldsRight d r (nI a) (nI w) t S = some (nI mr, S) ∧ mr + np (some (w, t)) ((chs xs).drop a) = np none ((chs xs).drop a) := by
  obtain ⟨d, rfl⟩ : ∃ e, d = e + 1 := ⟨d - 1, by omega⟩
  have ht := R.2.2.1
  show ∃ mr, e_Y_meldsRight d r (nI a) (nI w) t S = _ ∧ _
  simp only [e_Y_meldsRight, b_Y_meldsRight_35, b_Y_meldsRight_34, row_chars R (d := d) (by omega), Option.bind_some]
  rw [iflt (by omega) (by omega)]
  by_cases c : a < tot xs
  · rw [if_pos c]
    obtain ⟨y, hy⟩ : ∃ y, (chs xs)[a]? = some y := ⟨_, List.getElem?_eq_getElem (by rw [chs_len]; omega)⟩
    have hb := cb y (List.mem_of_getElem? hy)
    have hh : ((chs xs).drop a).head? = some y := by rw [List.head?_drop]; exact hy
    have hn := np_none (some (w, t)) hh
    simp only [r_source R (d := d) (by omega) hy, r_tag R (d := d) (by omega) hy, Option.bind_some, nI_1]
    simp only [mq] at hn
    rw [ifeq (by omega) (by omega)]
    by_cases c1 : w + 1 = y.1
    · rw [if_pos c1]
      by_cases c2 : y.2 = t
      · rw [if_pos c2]
        rw [if_pos ⟨c1, c2.symm⟩] at hn
        exact ⟨1, rfl, by omega⟩
      · rw [if_neg c2]
        rw [if_neg (fun g => c2 g.2.symm)] at hn
        exact ⟨0, rfl, by omega⟩
    · rw [if_neg c1]
      rw [if_neg (fun g => c1 g.1)] at hn
      exact ⟨0, rfl, by omega⟩
  · rw [if_neg c, List.drop_of_length_le (by rw [chs_len]; omega)]
    exact ⟨0, rfl, rfl⟩
theorem y_put {S : xS} {r : Option Nat} {xs : List nd} (R : row S r xs) (cb : ∀ c ∈ chs xs, c.1 < 4096) {d a f n : Nat} {t : Int32} (hd : 4 < d) (ha : a ≤ tot xs) (hn : 0 < n) (hf : f + n ≤ 4096) : f_Y_afterPut d r (nI a) (nI f) (nI n) t S = some (nI (np none ((chs xs).take a ++ (run f n t ++ (chs xs).drop a))), S) := by
  obtain ⟨d, rfl⟩ : ∃ e, d = e + 1 := ⟨d - 1, by omega⟩
  have ht := R.2.2.1
  obtain ⟨ml, f1, h1⟩ := y_left R cb (d := d) (a := a) (w := f) (t := t) (by omega) ha (by omega)
  obtain ⟨mr, f2, h2⟩ := y_right R cb (d := d) (a := a) (w := f + n - 1) (t := t) (by omega) (by omega) (by omega)
  have e1 : nI (f + n) - 1 = nI (f + n - 1) := by
    obtain ⟨k, hk⟩ : ∃ k, f + n = k + 1 := ⟨f + n - 1, by omega⟩
    rw [hk, nI_pred]; rfl
  have hh : (run f n t).head? = some (f, t) := by
    obtain ⟨k, rfl⟩ : ∃ k, n = k + 1 := ⟨n - 1, by omega⟩
    rw [run_succ]; rfl
  have key := np_three (A := (chs xs).take a) (B := (chs xs).drop a) hh (lst_run f n t none hn) h1 h2
  rw [np_run _ _ _ _ hn] at key
  have key2 : mq none (f, t) = 1 := rfl
  show e_Y_afterPut d r (nI a) (nI f) (nI n) t S = _
  simp only [e_Y_afterPut, y_before R (d := d) (by omega) ha, y_behind R (d := d) (a := a) (by omega) (by omega), e1, f1, f2, Option.bind_some, nI_1, nI_add]
  rw [pk_sub (by omega), pk_sub (by omega)]
  congr 3; omega
theorem y_cut {S : xS} {r : Option Nat} {xs : List nd} (R : row S r xs) (cb : ∀ c ∈ chs xs, c.1 < 4096) {d a n : Nat} (hd : 4 < d) (ha : a + n ≤ tot xs) : f_Y_afterCut d r (nI a) (nI n) S = some (nI (np none ((chs xs).take a ++ (chs xs).drop (a + n))), S) := by
  obtain ⟨d, rfl⟩ : ∃ e, d = e + 1 := ⟨d - 1, by omega⟩
  have ht := R.2.2.1
  show e_Y_afterCut d r (nI a) (nI n) S = _
  simp only [e_Y_afterCut, nI_add, y_before R (d := d) (a := a) (by omega) (by omega), y_behind R (d := d) (a := a + n) (by omega) (by omega), row_chars R (d := d) (by omega), Option.bind_some]
  rw [iflt (by omega) (by omega)]
  by_cases c : a + n < tot xs
  · rw [if_pos c]
    obtain ⟨y, hy⟩ : ∃ y, (chs xs)[a + n]? = some y := ⟨_, List.getElem?_eq_getElem (by rw [chs_len]; omega)⟩
    have hb := cb y (List.mem_of_getElem? hy)
    have hh : ((chs xs).drop (a + n)).head? = some y := by rw [List.head?_drop]; exact hy
    obtain ⟨ml, f1, h1⟩ := y_left R cb (d := d) (a := a) (w := y.1) (t := y.2) (by omega) (by omega) (by omega)
    have key := np_two (A := (chs xs).take a) hh h1
    simp only [r_source R (d := d) (by omega) hy, r_tag R (d := d) (by omega) hy, Option.bind_some, f1]
    rw [pk_sub (by omega)]
    congr 3; omega
  · rw [if_neg c, List.drop_of_length_le (l := chs xs) (i := a + n) (by rw [chs_len]; omega)]
    simp [np]
theorem y_within {S : xS} {r : Option Nat} {xs : List nd} (R : row S r xs) {d a n : Nat} (hd : 4 < d) (ha : a + n ≤ tot xs) : f_Y_within d r (nI a) (nI n) S = some (nI (np none (rng (chs xs) a (a + n))), S) := by
  obtain ⟨d, rfl⟩ : ∃ e, d = e + 1 := ⟨d - 1, by omega⟩
  have ht := R.2.2.1
  show e_Y_within d r (nI a) (nI n) S = _
  simp only [e_Y_within, b_Y_within_26]
  by_cases c : 1 ≤ n
  · have c0 : (1 : Int32) ≤ nI n := nI_le (a := 1) c (by omega)
    obtain ⟨k, rfl⟩ : ∃ k, n = k + 1 := ⟨n - 1, by omega⟩
    obtain ⟨y, hy⟩ : ∃ y, (chs xs)[a]? = some y := ⟨_, List.getElem?_eq_getElem (by rw [chs_len]; omega)⟩
    have hh : (rng (chs xs) a (a + (k + 1))).head? = some y := by
      unfold rng
      rw [List.head?_drop, List.getElem?_take_of_lt (by omega)]; exact hy
    have k1 := np_take (p := a + k) R.2.1 (by omega)
    have k2 := np_take (p := a) R.2.1 (by omega)
    have k3 := np_none (lst none ((chs xs).take a)) hh
    have k4 := np_head hh
    have e1 : (chs xs).take (a + k + 1) = (chs xs).take a ++ rng (chs xs) a (a + (k + 1)) := by
      unfold rng
      have := List.take_append_drop a ((chs xs).take (a + (k + 1)))
      rw [List.take_take, Nat.min_eq_left (by omega)] at this
      exact this.symm
    rw [e1, np_app] at k1
    have e2 : (chs xs).take (a + 1) = (chs xs).take a ++ [y] := by
      rw [List.take_succ, hy]; rfl
    rw [e2, np_app] at k2
    simp only [np] at k2
    rw [if_pos c0, nI_add]
    have e3 : nI (a + (k + 1)) - 1 = nI (a + k) := nI_pred (a + k)
    rw [e3]
    simp only [row_ord R (d := d) (p := a + k) (by omega) (by omega), row_ord R (d := d) (p := a) (by omega) (by omega), Option.bind_some]
    rw [pk_sub (by omega), nI_1]
    congr 3; omega
  · have e : n = 0 := by omega
    subst e
    rw [if_neg (show ¬ (1 : Int32) ≤ nI 0 by decide), rng_nil (by omega)]
    rfl
theorem y_paste {S : xS} {r q : Option Nat} {xs ys : List nd} (R : row S r xs) (Q : row S q ys) (cb : ∀ c ∈ chs xs, c.1 < 4096) (cb' : ∀ c ∈ chs ys, c.1 < 4096) {d a : Nat} (hd : 4 < d) (ha : a ≤ tot xs) : f_Y_afterPaste d r (nI a) q S = some (nI (np none ((chs xs).take a ++ (chs ys ++ (chs xs).drop a))), S) := by
  obtain ⟨d, rfl⟩ : ∃ e, d = e + 1 := ⟨d - 1, by omega⟩
  have ht := R.2.2.1
  have ht' := Q.2.2.1
  show e_Y_afterPaste d r (nI a) q S = _
  obtain ⟨⟨hq, tq⟩, nq, _, _⟩ := id Q
  rcases tr_top tq with ⟨rfl, _, rfl⟩ | ⟨b, _, _, _, _, _, rfl, hb, _⟩
  · simp only [e_Y_afterPaste, xcase_none, row_pieces R (d := d) (by omega), Option.bind_some]
    show _ = some (nI (np none ((chs xs).take a ++ ([] ++ (chs xs).drop a))), S)
    rw [List.nil_append, List.take_append_drop, row_np R]
  · have hy0 : 0 < ys.length := by
      cases ys with
      | nil => cases hb
      | cons _ _ => simp
    have hpos := pos_len (nrm_pos nq)
    obtain ⟨y, hy⟩ : ∃ y, (chs ys)[0]? = some y := ⟨_, List.getElem?_eq_getElem (by rw [chs_len]; omega)⟩
    obtain ⟨w, hw⟩ : ∃ w, (chs ys)[tot ys - 1]? = some w := ⟨_, List.getElem?_eq_getElem (by rw [chs_len]; omega)⟩
    have hby := cb' y (List.mem_of_getElem? hy)
    have hbw := cb' w (List.mem_of_getElem? hw)
    obtain ⟨ml, f1, h1⟩ := y_left R cb (d := d) (a := a) (w := y.1) (t := y.2) (by omega) ha (by omega)
    obtain ⟨mr, f2, h2⟩ := y_right R cb (d := d) (a := a) (w := w.1) (t := w.2) (by omega) (by omega) (by omega)
    have key := np_three (A := (chs xs).take a) (M := chs ys) (B := (chs xs).drop a) (y := y) (w := w) (by rw [List.head?_eq_getElem?]; exact hy) (lst_at (by rw [chs_len]; exact hw)) h1 h2
    have k2 := row_np Q
    have e1 : nI (tot ys) - 1 = nI (tot ys - 1) := by
      obtain ⟨k, hk⟩ : ∃ k, tot ys = k + 1 := ⟨tot ys - 1, by omega⟩
      rw [hk, nI_pred]; rfl
    have s0 : f_R_sourceAt d (some b) 0 S = some (nI y.1, S) := r_source Q (d := d) (p := 0) (by omega) hy
    have t0 : f_R_tagAt d (some b) 0 S = some (y.2, S) := r_tag Q (d := d) (p := 0) (by omega) hy
    simp only [e_Y_afterPaste, xcase_some, row_chars Q (d := d) (by omega), y_before R (d := d) (by omega) ha, row_pieces Q (d := d) (by omega), y_behind R (d := d) (a := a) (by omega) (by omega), s0, t0, f1, e1, r_source Q (d := d) (by omega) hw, r_tag Q (d := d) (by omega) hw, f2, Option.bind_some, nI_add]
    rw [pk_sub (by omega), pk_sub (by omega)]
    congr 3; omega
