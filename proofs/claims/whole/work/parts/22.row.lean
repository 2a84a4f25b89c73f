/-! WHAT IS ASKED OF A ROW -/
theorem r_height {S : xS} {h : Nat} {r : Option Nat} {xs : List nd} (T : tr S.1 h r xs) {d : Nat} (hd : 0 < d) : f_R_heightOf d r S = some (nI h, S) := by
  obtain ⟨d, rfl⟩ : ∃ e, d = e + 1 := ⟨d - 1, by omega⟩
  show e_R_heightOf d r S = _
  rcases tr_top T with ⟨rfl, rfl, rfl⟩ | ⟨a, s, z, t, l, q, rfl, _, ha⟩
  · rfl
  · simp only [e_R_heightOf, b_R_heightOf_12, xcase_some, gI5 ha, Option.bind_some]
theorem r_pieces {S : xS} {h : Nat} {r : Option Nat} {xs : List nd} (T : tr S.1 h r xs) {d : Nat} (hd : 0 < d) : f_R_piecesOf d r S = some (nI xs.length, S) := by
  obtain ⟨d, rfl⟩ : ∃ e, d = e + 1 := ⟨d - 1, by omega⟩
  show e_R_piecesOf d r S = _
  rcases tr_top T with ⟨rfl, rfl, rfl⟩ | ⟨a, s, z, t, l, q, rfl, _, ha⟩
  · rfl
  · simp only [e_R_piecesOf, b_R_piecesOf_12, xcase_some, gI6 ha, Option.bind_some]
theorem r_chars {S : xS} {h : Nat} {r : Option Nat} {xs : List nd} (T : tr S.1 h r xs) {d : Nat} (hd : 0 < d) : f_R_charactersOf d r S = some (nI (tot xs), S) := by
  obtain ⟨d, rfl⟩ : ∃ e, d = e + 1 := ⟨d - 1, by omega⟩
  show e_R_charactersOf d r S = _
  rcases tr_top T with ⟨rfl, rfl, rfl⟩ | ⟨a, s, z, t, l, q, rfl, _, ha⟩
  · rfl
  · simp only [e_R_charactersOf, b_R_charactersOf_12, xcase_some, gI7 ha, Option.bind_some]
theorem r_order0 {S : xS} {d : Nat} (hd : 0 < d) {h : Nat} {r : Option Nat} {xs : List nd} (T : tr S.1 h r xs) : ∀ n k p : Nat, h < n → tot xs < 2 ^ 30 → p < 2 ^ 30 → l_R_orderAt_7 d n (nI k) (nI p) r S = some (nI (k + ord xs p), S) := by
  refine tr_ind (H := S.1) (fun h r xs => ∀ n k p : Nat, h < n → tot xs < 2 ^ 30 → p < 2 ^ 30 → l_R_orderAt_7 d n (nI k) (nI p) r S = some (nI (k + ord xs p), S)) ?_ ?_ T
  · intro n k p hn _ _
    obtain ⟨n, rfl⟩ : ∃ e, n = e + 1 := ⟨n - 1, by omega⟩
    rfl
  · intro a s z t l q hl hr xl xr ha h1 h2 tl tq il iq n k p hn ht hp
    obtain ⟨n, rfl⟩ : ∃ e, n = e + 1 := ⟨n - 1, by omega⟩
    rw [tot_app, tot_cons] at ht
    simp only at ht
    show b_R_orderAt_7 d (l_R_orderAt_7 d n) (nI k) (nI p) (some a) S = _
    simp only [b_R_orderAt_7, b_R_orderAt_92, xcase_some, gR3 ha, gR4 ha, gI1 ha, Option.bind_some, r_chars tl hd, r_pieces tl hd, nI_add, nI_1]
    rw [ifle (by omega) (by omega), ifle (by omega) (by omega)]
    by_cases c1 : tot xl ≤ p
    · rw [if_pos c1, ord_hi _ c1]
      by_cases c2 : tot xl + z ≤ p
      · rw [if_pos c2, pk_sub c2, iq n _ _ (by omega) (by omega) (by omega)]
        simp only [ord]
        rw [if_neg (by omega), Nat.sub_sub]
        congr 3; omega
      · rw [if_neg c2]
        simp only [ord]
        rw [if_pos (by omega)]
        rfl
    · rw [if_neg c1, il n k p (by omega) (by omega) hp, ord_lo _ (by omega)]
theorem r_order {S : xS} {h : Nat} {r : Option Nat} {xs : List nd} (T : tr S.1 h r xs) {d : Nat} (hd : 1 < d) (hl : xs.length ≤ 2000) (ht : tot xs < 2 ^ 30) {p : Nat} (hp : p < 2 ^ 30) : f_R_orderAt d r (nI p) S = some (nI (ord xs p), S) := by
  obtain ⟨d, rfl⟩ : ∃ e, d = e + 1 := ⟨d - 1, by omega⟩
  have h1 := tr_low T hl
  have h2 := r_order0 (d := d) (by omega) T xN 0 p (by unfold xN; omega) ht hp
  rw [Nat.zero_add] at h2
  exact h2
theorem r_num0 {S : xS} {d : Nat} (hd : 0 < d) {h : Nat} {r : Option Nat} {xs : List nd} (T : tr S.1 h r xs) : ∀ n k : Nat, h < n → xs.length < 2 ^ 30 → k < 2 ^ 30 → l_R_numbered_4 d n (nI k) r S = some (xs[k]?.map fun x => x.1, S) := by
  refine tr_ind (H := S.1) (fun h r xs => ∀ n k : Nat, h < n → xs.length < 2 ^ 30 → k < 2 ^ 30 → l_R_numbered_4 d n (nI k) r S = some (xs[k]?.map fun x => x.1, S)) ?_ ?_ T
  · intro n k hn _ _
    obtain ⟨n, rfl⟩ : ∃ e, n = e + 1 := ⟨n - 1, by omega⟩
    rfl
  · intro a s z t l q hl hr xl xr ha h1 h2 tl tq il iq n k hn ht hk
    obtain ⟨n, rfl⟩ : ∃ e, n = e + 1 := ⟨n - 1, by omega⟩
    simp only [List.length_append, List.length_cons] at ht
    show b_R_numbered_4 d (l_R_numbered_4 d n) (nI k) (some a) S = _
    simp only [b_R_numbered_4, b_R_numbered_51, xcase_some, gR3 ha, gR4 ha, Option.bind_some, r_pieces tl hd, nI_1]
    rw [ifeq (by omega) (by omega), ifle (by omega) (by omega)]
    by_cases c0 : k = xl.length
    · rw [if_pos c0, c0, List.getElem?_append_right (Nat.le_refl _), Nat.sub_self]; rfl
    · rw [if_neg c0]
      by_cases c1 : xl.length ≤ k
      · rw [if_pos c1, pk_sub (by omega), iq n _ (by omega) (by omega) (by omega), List.getElem?_append_right c1]
        obtain ⟨j, hj⟩ : ∃ j, k - xl.length = j + 1 := ⟨k - xl.length - 1, by omega⟩
        have e : k - (xl.length + 1) = j := by omega
        rw [hj, e, List.getElem?_cons_succ]
      · rw [if_neg c1, il n k (by omega) (by omega) hk, List.getElem?_append_left (by omega)]
theorem r_num {S : xS} {h : Nat} {r : Option Nat} {xs : List nd} (T : tr S.1 h r xs) {d : Nat} (hd : 1 < d) (hl : xs.length ≤ 2000) {k : Nat} (hk : k < 2 ^ 30) : f_R_numbered d r (nI k) S = some (xs[k]?.map fun x => x.1, S) := by
  obtain ⟨d, rfl⟩ : ∃ e, d = e + 1 := ⟨d - 1, by omega⟩
  have h1 := tr_low T hl
  exact r_num0 (d := d) (by omega) T xN k (by unfold xN; omega) (by omega) hk
/-- a number that no piece has -/
theorem r_numX0 {S : xS} {d : Nat} (hd : 0 < d) {h : Nat} {r : Option Nat} {xs : List nd} (T : tr S.1 h r xs) : ∀ (n : Nat) (w : Int32), h < n → xs.length < 2 ^ 30 → (w.toInt < 0 ∨ (xs.length : Int) ≤ w.toInt) → l_R_numbered_4 d n w r S = some (none, S) := by
  refine tr_ind (H := S.1) (fun h r xs => ∀ (n : Nat) (w : Int32), h < n → xs.length < 2 ^ 30 → (w.toInt < 0 ∨ (xs.length : Int) ≤ w.toInt) → l_R_numbered_4 d n w r S = some (none, S)) ?_ ?_ T
  · intro n k hn _ _
    obtain ⟨n, rfl⟩ : ∃ e, n = e + 1 := ⟨n - 1, by omega⟩
    rfl
  · intro a s z t l q hl hr xl xr ha h1 h2 tl tq il iq n w hn ht hw
    obtain ⟨n, rfl⟩ : ∃ e, n = e + 1 := ⟨n - 1, by omega⟩
    simp only [List.length_append, List.length_cons] at ht hw
    show b_R_numbered_4 d (l_R_numbered_4 d n) w (some a) S = _
    simp only [b_R_numbered_4, b_R_numbered_51, xcase_some, gR3 ha, gR4 ha, Option.bind_some, r_pieces tl hd, nI_1]
    have e1 := nI_toInt (n := xl.length) (by omega)
    have e2 := nI_toInt (n := xl.length + 1) (by omega)
    have c0 : ¬ w = nI xl.length := by
      intro e; rw [e, e1] at hw; omega
    rw [if_neg c0]
    by_cases c1 : nI xl.length ≤ w
    · rw [if_pos c1]
      rw [Int32.le_iff_toInt_le, e1] at c1
      have e3 : (w - nI (xl.length + 1)).toInt = w.toInt - (xl.length + 1 : Nat) := by
        rw [Int32.toInt_sub, e2]
        have := w.toInt_lt
        rw [Int.bmod_def]; omega
      exact iq n _ (by omega) (by omega) (by rw [e3]; omega)
    · rw [if_neg c1]
      rw [Int32.le_iff_toInt_le, e1] at c1
      exact il n _ (by omega) (by omega) (by omega)
theorem r_numX {S : xS} {h : Nat} {r : Option Nat} {xs : List nd} (T : tr S.1 h r xs) {d : Nat} (hd : 1 < d) (hl : xs.length ≤ 2000) {w : Int32} (hw : w.toInt < 0 ∨ (xs.length : Int) ≤ w.toInt) : f_R_numbered d r w S = some (none, S) := by
  obtain ⟨d, rfl⟩ : ∃ e, d = e + 1 := ⟨d - 1, by omega⟩
  have h1 := tr_low T hl
  exact r_numX0 (d := d) (by omega) T xN w (by unfold xN; omega) (by omega) hw
theorem r_start0 {S : xS} {d : Nat} (hd : 0 < d) {h : Nat} {r : Option Nat} {xs : List nd} (T : tr S.1 h r xs) : ∀ n c k : Nat, h < n → xs.length < 2 ^ 30 → k < 2 ^ 30 → l_R_startOf_7 d n (nI c) (nI k) r S = some (nI (c + beg xs k), S) := by
  refine tr_ind (H := S.1) (fun h r xs => ∀ n c k : Nat, h < n → xs.length < 2 ^ 30 → k < 2 ^ 30 → l_R_startOf_7 d n (nI c) (nI k) r S = some (nI (c + beg xs k), S)) ?_ ?_ T
  · intro n c k hn _ _
    obtain ⟨n, rfl⟩ : ∃ e, n = e + 1 := ⟨n - 1, by omega⟩
    simp [l_R_startOf_7, b_R_startOf_7, xcase_none, beg, tot]
  · intro a s z t l q hl hr xl xr ha h1 h2 tl tq il iq n c k hn ht hk
    obtain ⟨n, rfl⟩ : ∃ e, n = e + 1 := ⟨n - 1, by omega⟩
    simp only [List.length_append, List.length_cons] at ht
    show b_R_startOf_7 d (l_R_startOf_7 d n) (nI c) (nI k) (some a) S = _
    simp only [b_R_startOf_7, b_R_startOf_69, xcase_some, gR3 ha, gR4 ha, gI1 ha, Option.bind_some, r_pieces tl hd, r_chars tl hd, nI_add, nI_1]
    rw [iflt (by omega) (by omega)]
    by_cases c1 : xl.length < k
    · rw [if_pos c1, pk_sub (by omega), iq n _ _ (by omega) (by omega) (by omega), beg_hi _ (by omega)]
      obtain ⟨j, hj⟩ : ∃ j, k - xl.length = j + 1 := ⟨k - xl.length - 1, by omega⟩
      have e : k - (xl.length + 1) = j := by omega
      rw [hj, e]
      simp only [beg, List.take_succ_cons, tot_cons]
      congr 3; omega
    · rw [if_neg c1, il n _ _ (by omega) (by omega) hk, beg_lo _ (by omega)]
theorem r_start {S : xS} {h : Nat} {r : Option Nat} {xs : List nd} (T : tr S.1 h r xs) {d : Nat} (hd : 1 < d) (hl : xs.length ≤ 2000) {k : Nat} (hk : k < 2 ^ 30) : f_R_startOf d r (nI k) S = some (nI (beg xs k), S) := by
  obtain ⟨d, rfl⟩ : ∃ e, d = e + 1 := ⟨d - 1, by omega⟩
  have h1 := tr_low T hl
  have h2 := r_start0 (d := d) (by omega) T xN 0 k (by unfold xN; omega) (by omega) hk
  rw [Nat.zero_add] at h2
  exact h2
/-- a row that stands: its tree, its bounds, its neighbours apart -/
def row (S : xS) (r : Option Nat) (xs : List nd) : Prop := (∃ h, tr S.1 h r xs) ∧ nrm none xs ∧ tot xs ≤ 10000 ∧ xs.length ≤ 2000
theorem r_source {S : xS} {r : Option Nat} {xs : List nd} (R : row S r xs) {d : Nat} (hd : 2 < d) {p : Nat} {y : chr} (hy : (chs xs)[p]? = some y) : f_R_sourceAt d r (nI p) S = some (nI y.1, S) := by
  obtain ⟨⟨h, T⟩, hn, ht, hl⟩ := R
  have hp : p < tot xs := by rw [← chs_len]; exact (List.getElem?_eq_some_iff.mp hy).1
  obtain ⟨d, rfl⟩ : ∃ e, d = e + 1 := ⟨d - 1, by omega⟩
  obtain ⟨x, h1, h2, h3, h4⟩ := ord_in hp
  have ho := ord_le xs p
  obtain ⟨l, q, i, j, k, hc⟩ := tr_cell T x (List.mem_of_getElem? h1)
  show e_R_sourceAt d r (nI p) S = _
  simp only [e_R_sourceAt, b_R_sourceAt_32, r_order T (d := d) (by omega) hl (by omega) (p := p) (by omega), r_num T (d := d) (by omega) hl (k := ord xs p) (by omega), r_start T (d := d) (by omega) hl (k := ord xs p) (by omega), Option.bind_some, h1, Option.map_some, xcase_some, gI0 hc, nI_add]
  rw [pk_sub (by omega)]
  rw [h4] at hy
  cases hy
  congr 3; omega
theorem r_tag {S : xS} {r : Option Nat} {xs : List nd} (R : row S r xs) {d : Nat} (hd : 2 < d) {p : Nat} {y : chr} (hy : (chs xs)[p]? = some y) : f_R_tagAt d r (nI p) S = some (y.2, S) := by
  obtain ⟨⟨h, T⟩, hn, ht, hl⟩ := R
  have hp : p < tot xs := by rw [← chs_len]; exact (List.getElem?_eq_some_iff.mp hy).1
  obtain ⟨d, rfl⟩ : ∃ e, d = e + 1 := ⟨d - 1, by omega⟩
  obtain ⟨x, h1, h2, h3, h4⟩ := ord_in hp
  have ho := ord_le xs p
  obtain ⟨l, q, i, j, k, hc⟩ := tr_cell T x (List.mem_of_getElem? h1)
  show e_R_tagAt d r (nI p) S = _
  simp only [e_R_tagAt, b_R_tagAt_22, r_order T (d := d) (by omega) hl (by omega) (p := p) (by omega), r_num T (d := d) (by omega) hl (k := ord xs p) (by omega), Option.bind_some, h1, Option.map_some, xcase_some, gI2 hc]
  rw [h4] at hy
  cases hy
  rfl
theorem row_ord {S : xS} {r : Option Nat} {xs : List nd} (R : row S r xs) {d : Nat} (hd : 1 < d) {p : Nat} (hp : p < 2 ^ 30) : f_R_orderAt d r (nI p) S = some (nI (ord xs p), S) := by
  obtain ⟨⟨h, T⟩, hn, ht, hl⟩ := R
  exact r_order T hd hl (by omega) hp
theorem row_num {S : xS} {r : Option Nat} {xs : List nd} (R : row S r xs) {d : Nat} (hd : 1 < d) {k : Nat} (hk : k < 2 ^ 30) : f_R_numbered d r (nI k) S = some (xs[k]?.map fun x => x.1, S) := by
  obtain ⟨⟨h, T⟩, hn, ht, hl⟩ := R
  exact r_num T hd hl hk
theorem row_start {S : xS} {r : Option Nat} {xs : List nd} (R : row S r xs) {d : Nat} (hd : 1 < d) {k : Nat} (hk : k < 2 ^ 30) : f_R_startOf d r (nI k) S = some (nI (beg xs k), S) := by
  obtain ⟨⟨h, T⟩, hn, ht, hl⟩ := R
  exact r_start T hd hl hk
theorem row_pieces {S : xS} {r : Option Nat} {xs : List nd} (R : row S r xs) {d : Nat} (hd : 0 < d) : f_R_piecesOf d r S = some (nI xs.length, S) := by
  obtain ⟨⟨h, T⟩, _⟩ := R
  exact r_pieces T hd
theorem row_chars {S : xS} {r : Option Nat} {xs : List nd} (R : row S r xs) {d : Nat} (hd : 0 < d) : f_R_charactersOf d r S = some (nI (tot xs), S) := by
  obtain ⟨⟨h, T⟩, _⟩ := R
  exact r_chars T hd
theorem row_np {S : xS} {r : Option Nat} {xs : List nd} (R : row S r xs) : np none (chs xs) = xs.length := nrm_np R.2.1
