/-! ROWS OF PIECES. A piece: its node's address, its source, its size, its tag. A character: its source, its tag. -/
abbrev nd : Type := Nat × Nat × Nat × Int32
abbrev chr : Type := Nat × Int32
def tot (xs : List nd) : Nat := (xs.map fun x => x.2.2.1).sum
def ads (xs : List nd) : List Nat := xs.map fun x => x.1
theorem tot_nil : tot [] = 0 := rfl
theorem tot_cons (x : nd) (xs : List nd) : tot (x :: xs) = x.2.2.1 + tot xs := by simp [tot]
theorem tot_app (xs ys : List nd) : tot (xs ++ ys) = tot xs + tot ys := by simp [tot]
theorem ads_app (xs ys : List nd) : ads (xs ++ ys) = ads xs ++ ads ys := by simp [ads]
theorem ads_cons (x : nd) (xs : List nd) : ads (x :: xs) = x.1 :: ads xs := rfl
theorem ads_nil : ads [] = [] := rfl
def run (s z : Nat) (t : Int32) : List chr := (List.range z).map fun i => (s + i, t)
def chs : List nd → List chr
  | [] => []
  | x :: xs => run x.2.1 x.2.2.1 x.2.2.2 ++ chs xs
theorem run_len (s z : Nat) (t : Int32) : (run s z t).length = z := by simp [run]
theorem run_zero (s : Nat) (t : Int32) : run s 0 t = [] := by simp [run]
theorem run_at {s z i : Nat} {t : Int32} (h : i < z) : (run s z t)[i]? = some (s + i, t) := by
  simp [run, h]
theorem run_ext {l : List chr} {s z : Nat} {t : Int32} (hl : l.length = z) (h : ∀ i, i < z → l[i]? = some (s + i, t)) : l = run s z t := by
  apply List.ext_getElem?
  intro i
  by_cases c : i < z
  · rw [h i c, run_at c]
  · rw [List.getElem?_eq_none (by omega), List.getElem?_eq_none (by rw [run_len]; omega)]
theorem run_app (s z w : Nat) (t : Int32) : run s z t ++ run (s + z) w t = run s (z + w) t := by
  apply run_ext
  · simp [run_len]
  · intro i h
    by_cases c : i < z
    · rw [List.getElem?_append_left (by rw [run_len]; exact c), run_at c]
    · rw [List.getElem?_append_right (by rw [run_len]; omega), run_len, run_at (by omega)]
      congr 2; omega
theorem run_succ (s z : Nat) (t : Int32) : run s (z + 1) t = (s, t) :: run (s + 1) z t := by
  have h := run_app s 1 z t
  rw [Nat.add_comm 1 z] at h
  rw [← h]; simp [run]
theorem run_take (s z p : Nat) (t : Int32) : (run s z t).take p = run s (min p z) t := by
  apply run_ext
  · simp [run_len]
  · intro i h
    rw [List.getElem?_take_of_lt (by omega), run_at (by omega)]
theorem run_drop (s z p : Nat) (t : Int32) : (run s z t).drop p = run (s + p) (z - p) t := by
  apply run_ext
  · simp [run_len]
  · intro i h
    rw [List.getElem?_drop, run_at (by omega)]
    congr 2; omega
theorem chs_app (xs ys : List nd) : chs (xs ++ ys) = chs xs ++ chs ys := by
  induction xs with
  | nil => rfl
  | cons x xs ih => simp only [List.cons_append, chs, ih, List.append_assoc]
theorem chs_len (xs : List nd) : (chs xs).length = tot xs := by
  induction xs with
  | nil => rfl
  | cons x xs ih => simp only [chs, List.length_append, run_len, ih, tot_cons]
/-- the last character, or what stands before -/
def lst (o : Option chr) : List chr → Option chr
  | [] => o
  | a :: l => lst (some a) l
theorem lst_app (A B : List chr) : ∀ o, lst o (A ++ B) = lst (lst o A) B := by
  induction A with
  | nil => intro o; rfl
  | cons a A ih => intro o; exact ih _
theorem lst_run (s z : Nat) (t : Int32) (o : Option chr) : 0 < z → lst o (run s z t) = some (s + z - 1, t) := by
  induction z generalizing s o with
  | zero => intro h; exact absurd h (Nat.lt_irrefl 0)
  | succ z ih =>
    intro _
    rw [run_succ]
    show lst (some (s, t)) (run (s + 1) z t) = _
    by_cases c : 0 < z
    · rw [ih _ _ c]; congr 2; omega
    · have : z = 0 := by omega
      subst this
      rw [run_zero]; simp [lst]
/-- does a new piece begin at y -/
def mq (o : Option chr) (y : chr) : Nat := match o with
  | none => 1
  | some x => if x.1 + 1 = y.1 ∧ x.2 = y.2 then 0 else 1
theorem mq_le (o : Option chr) (y : chr) : mq o y ≤ 1 := by
  unfold mq; split
  · exact Nat.le_refl 1
  · split <;> decide
/-- how many pieces -/
def np (o : Option chr) : List chr → Nat
  | [] => 0
  | y :: l => mq o y + np (some y) l
theorem np_app (A B : List chr) : ∀ o, np o (A ++ B) = np o A + np (lst o A) B := by
  induction A with
  | nil => intro o; simp [np, lst]
  | cons a A ih => intro o; simp only [List.cons_append, np, lst, ih]; omega
theorem np_le (l : List chr) : ∀ o, np o l ≤ l.length := by
  induction l with
  | nil => intro o; exact Nat.le_refl 0
  | cons y l ih =>
    intro o
    have h1 := ih (some y)
    have h2 := mq_le o y
    simp only [np, List.length_cons]
    omega
theorem np_none {A : List chr} {y : chr} (o : Option chr) (h : A.head? = some y) : np none A + mq o y = np o A + 1 := by
  cases A with
  | nil => cases h
  | cons a A => simp at h; subst h; simp only [np, mq]; omega
theorem np_run (s z : Nat) (t : Int32) (o : Option chr) (h : 0 < z) : np o (run s z t) = mq o (s, t) := by
  induction z generalizing s o with
  | zero => exact absurd h (Nat.lt_irrefl 0)
  | succ z ih =>
    rw [run_succ]
    show mq o (s, t) + np (some (s, t)) (run (s + 1) z t) = _
    by_cases c : 0 < z
    · rw [ih _ _ c]; simp [mq]
    · have : z = 0 := by omega
      subst this
      rw [run_zero]; simp [np]
/-- a row in which no two neighbours belong together -/
def nrm (o : Option chr) : List nd → Prop
  | [] => True
  | x :: xs => 0 < x.2.2.1 ∧ mq o (x.2.1, x.2.2.2) = 1 ∧ nrm (some (x.2.1 + x.2.2.1 - 1, x.2.2.2)) xs
theorem nrm_lst {xs : List nd} {o : Option chr} {x : nd} (h : 0 < x.2.2.1) : lst o (chs (x :: xs)) = lst (some (x.2.1 + x.2.2.1 - 1, x.2.2.2)) (chs xs) := by
  show lst o (run _ _ _ ++ chs xs) = _
  rw [lst_app, lst_run _ _ _ _ h]
theorem nrm_app (xs ys : List nd) : ∀ o, nrm o (xs ++ ys) ↔ nrm o xs ∧ nrm (lst o (chs xs)) ys := by
  induction xs with
  | nil => intro o; simp [nrm, chs, lst]
  | cons x xs ih =>
    intro o
    simp only [List.cons_append, nrm, ih]
    constructor
    · rintro ⟨h1, h2, h3, h4⟩
      exact ⟨⟨h1, h2, h3⟩, by rw [nrm_lst h1]; exact h4⟩
    · rintro ⟨⟨h1, h2, h3⟩, h4⟩
      rw [nrm_lst h1] at h4
      exact ⟨h1, h2, h3, h4⟩
theorem nrm_none {xs : List nd} {o : Option chr} (h : nrm o xs) : nrm none xs := by
  cases xs with
  | nil => trivial
  | cons x xs => exact ⟨h.1, rfl, h.2.2⟩
theorem nrm_np {xs : List nd} : ∀ {o : Option chr}, nrm o xs → np o (chs xs) = xs.length := by
  induction xs with
  | nil => intro o _; rfl
  | cons x xs ih =>
    intro o h
    show np o (run _ _ _ ++ chs xs) = _
    rw [np_app, np_run _ _ _ _ h.1, h.2.1, lst_run _ _ _ _ h.1, ih h.2.2, List.length_cons]
    omega
theorem nrm_pos {xs : List nd} : ∀ {o : Option chr}, nrm o xs → ∀ x ∈ xs, 0 < x.2.2.1 := by
  induction xs with
  | nil => intro o _ x hx; cases hx
  | cons y xs ih =>
    intro o h x hx
    rcases List.mem_cons.mp hx with rfl | hx
    · exact h.1
    · exact ih h.2.2 x hx
theorem pos_len {xs : List nd} (h : ∀ x ∈ xs, 0 < x.2.2.1) : xs.length ≤ tot xs := by
  induction xs with
  | nil => exact Nat.le_refl 0
  | cons x xs ih =>
    have h1 := h x (by simp)
    have h2 := ih fun y hy => h y (by simp [hy])
    rw [tot_cons, List.length_cons]; omega
theorem nrm_head {xs : List nd} {o : Option chr} (h : nrm none xs) (hm : ∀ x, xs.head? = some x → mq o (x.2.1, x.2.2.2) = 1) : nrm o xs := by
  cases xs with
  | nil => trivial
  | cons x xs => exact ⟨h.1, hm x rfl, h.2.2⟩
theorem chs_head {x : nd} {xs : List nd} (h : 0 < x.2.2.1) : (chs (x :: xs)).head? = some (x.2.1, x.2.2.2) := by
  show (run _ _ _ ++ chs xs).head? = _
  obtain ⟨z, hz⟩ : ∃ z, x.2.2.1 = z + 1 := ⟨x.2.2.1 - 1, by omega⟩
  rw [hz, run_succ]; rfl
/-- a row as a list: which piece has a place, where a piece begins -/
def ord : List nd → Nat → Nat
  | [], _ => 0
  | x :: xs, p => if p < x.2.2.1 then 0 else ord xs (p - x.2.2.1) + 1
theorem ord_lo {xl : List nd} : ∀ {p : Nat} (ys : List nd), p < tot xl → ord (xl ++ ys) p = ord xl p := by
  induction xl with
  | nil => intro p ys h; exact absurd h (Nat.not_lt_zero p)
  | cons x xl ih =>
    intro p ys h
    rw [tot_cons] at h
    simp only [List.cons_append, ord]
    by_cases c : p < x.2.2.1
    · simp [c]
    · simp only [c, if_false]
      rw [ih ys (by omega)]
theorem ord_hi {xl : List nd} : ∀ {p : Nat} (ys : List nd), tot xl ≤ p → ord (xl ++ ys) p = xl.length + ord ys (p - tot xl) := by
  induction xl with
  | nil => intro p ys _; simp [tot]
  | cons x xl ih =>
    intro p ys h
    rw [tot_cons] at h
    simp only [List.cons_append, ord, List.length_cons]
    rw [if_neg (by omega), ih ys (by omega), tot_cons, Nat.sub_sub]
    omega
theorem ord_le (xs : List nd) : ∀ p : Nat, ord xs p ≤ xs.length := by
  induction xs with
  | nil => intro p; exact Nat.le_refl 0
  | cons x xs ih =>
    intro p
    simp only [ord, List.length_cons]
    by_cases c : p < x.2.2.1
    · simp [c]
    · simp only [c, if_false]
      have := ih (p - x.2.2.1)
      omega
theorem ord_lt {xs : List nd} : ∀ {p : Nat}, p < tot xs → ord xs p < xs.length := by
  induction xs with
  | nil => intro p h; exact absurd h (Nat.not_lt_zero p)
  | cons x xs ih =>
    intro p h
    rw [tot_cons] at h
    simp only [ord, List.length_cons]
    by_cases c : p < x.2.2.1
    · simp [c]
    · simp only [c, if_false]
      have := ih (p := p - x.2.2.1) (by omega)
      omega
theorem ord_end {xs : List nd} : ∀ {p : Nat}, tot xs ≤ p → ord xs p = xs.length := by
  induction xs with
  | nil => intro p _; rfl
  | cons x xs ih =>
    intro p h
    rw [tot_cons] at h
    simp only [ord, List.length_cons]
    rw [if_neg (by omega), ih (by omega)]
def beg (xs : List nd) (k : Nat) : Nat := tot (xs.take k)
theorem beg_zero (xs : List nd) : beg xs 0 = 0 := rfl
theorem beg_lo {xl : List nd} {k : Nat} (ys : List nd) (h : k ≤ xl.length) : beg (xl ++ ys) k = beg xl k := by
  simp only [beg, List.take_append_of_le_length h]
theorem beg_hi {xl : List nd} {k : Nat} (ys : List nd) (h : xl.length ≤ k) : beg (xl ++ ys) k = tot xl + beg ys (k - xl.length) := by
  simp only [beg, List.take_append, List.take_of_length_le h, tot_app]
theorem beg_le (xs : List nd) (k : Nat) : beg xs k ≤ tot xs := by
  have h : tot (xs.take k ++ xs.drop k) = tot xs := by rw [List.take_append_drop]
  rw [tot_app] at h
  simp only [beg]
  omega
theorem beg_succ {xs : List nd} {k : Nat} {x : nd} (h : xs[k]? = some x) : beg xs (k + 1) = beg xs k + x.2.2.1 := by
  simp only [beg, List.take_succ, h, tot_app, Option.toList, tot_cons, tot_nil]
  omega
/-- a place lies in its piece -/
theorem ord_in {xs : List nd} : ∀ {p : Nat}, p < tot xs → ∃ x : nd, xs[ord xs p]? = some x ∧ beg xs (ord xs p) ≤ p ∧ p < beg xs (ord xs p) + x.2.2.1 ∧ (chs xs)[p]? = some (x.2.1 + (p - beg xs (ord xs p)), x.2.2.2) := by
  induction xs with
  | nil => intro p h; exact absurd h (Nat.not_lt_zero p)
  | cons x xs ih =>
    intro p h
    rw [tot_cons] at h
    by_cases c : p < x.2.2.1
    · refine ⟨x, ?_, ?_, ?_, ?_⟩
      · simp [ord, c]
      · simp [ord, c, beg, tot]
      · simp [ord, c, beg, tot]
      · have e : ord (x :: xs) p = 0 := by simp [ord, c]
        rw [e, beg_zero, Nat.sub_zero]
        show (run _ _ _ ++ chs xs)[p]? = _
        rw [List.getElem?_append_left (by rw [run_len]; exact c), run_at c]
    · obtain ⟨y, h1, h2, h3, h4⟩ := ih (p := p - x.2.2.1) (by omega)
      have e : ord (x :: xs) p = ord xs (p - x.2.2.1) + 1 := by simp [ord, c]
      have b : beg (x :: xs) (ord xs (p - x.2.2.1) + 1) = x.2.2.1 + beg xs (ord xs (p - x.2.2.1)) := by
        simp only [beg, List.take_succ_cons, tot_cons]
      refine ⟨y, by rw [e]; simpa using h1, ?_, ?_, ?_⟩
      · rw [e, b]; omega
      · rw [e, b]; omega
      · rw [e, b]
        show (run _ _ _ ++ chs xs)[p]? = _
        rw [List.getElem?_append_right (by rw [run_len]; omega), run_len, h4]
        congr 3; omega
/-- the characters of piece k -/
theorem beg_chs {xs : List nd} : ∀ {k : Nat} {x : nd}, xs[k]? = some x → ∀ i, i < x.2.2.1 → (chs xs)[beg xs k + i]? = some (x.2.1 + i, x.2.2.2) := by
  induction xs with
  | nil => intro k x h; simp at h
  | cons y xs ih =>
    intro k x h i hi
    cases k with
    | zero =>
      simp at h; subst h
      rw [beg_zero, Nat.zero_add]
      show (run _ _ _ ++ chs xs)[i]? = _
      rw [List.getElem?_append_left (by rw [run_len]; exact hi), run_at hi]
    | succ k =>
      have h' : xs[k]? = some x := by simpa using h
      have b : beg (y :: xs) (k + 1) = y.2.2.1 + beg xs k := by simp only [beg, List.take_succ_cons, tot_cons]
      rw [b]
      show (run _ _ _ ++ chs xs)[_]? = _
      rw [List.getElem?_append_right (by rw [run_len]; omega), run_len, ← ih h' i hi]
      congr 1; omega
theorem beg_lt {xs : List nd} {k : Nat} {x : nd} (h : xs[k]? = some x) : beg xs k + x.2.2.1 ≤ tot xs := by
  rw [← beg_succ h]; exact beg_le xs _
/-- pieces of the characters before a place, and from it on -/
theorem np_take {xs : List nd} : ∀ {o : Option chr} {p : Nat}, nrm o xs → p < tot xs → np o ((chs xs).take (p + 1)) = ord xs p + 1 := by
  induction xs with
  | nil => intro o p _ h; exact absurd h (Nat.not_lt_zero p)
  | cons x xs ih =>
    intro o p hn h
    rw [tot_cons] at h
    show np o ((run _ _ _ ++ chs xs).take (p + 1)) = _
    rw [List.take_append, run_len, run_take]
    by_cases c : p < x.2.2.1
    · have e1 : min (p + 1) x.2.2.1 = p + 1 := by omega
      have e2 : p + 1 - x.2.2.1 = 0 := by omega
      rw [e1, e2, List.take_zero, List.append_nil, np_run _ _ _ _ (by omega), hn.2.1]
      simp [ord, c]
    · have e1 : min (p + 1) x.2.2.1 = x.2.2.1 := by omega
      have e2 : p + 1 - x.2.2.1 = (p - x.2.2.1) + 1 := by omega
      rw [e1, e2, np_app, np_run _ _ _ _ hn.1, hn.2.1, lst_run _ _ _ _ hn.1, ih hn.2.2 (by omega)]
      simp only [ord, c, if_false]
      omega
theorem np_drop {xs : List nd} : ∀ {p : Nat}, nrm none xs → np none ((chs xs).drop p) + ord xs p = xs.length := by
  induction xs with
  | nil => intro p _; simp [chs, np, ord]
  | cons x xs ih =>
    intro p hn
    show np none ((run _ _ _ ++ chs xs).drop p) + _ = _
    rw [List.drop_append, run_len, run_drop]
    by_cases c : p < x.2.2.1
    · have e2 : p - x.2.2.1 = 0 := by omega
      rw [e2, List.drop_zero, np_app, np_run _ _ _ _ (by omega), lst_run _ _ _ _ (by omega)]
      have e3 : x.2.1 + p + (x.2.2.1 - p) - 1 = x.2.1 + x.2.2.1 - 1 := by omega
      rw [e3, nrm_np hn.2.2]
      simp only [ord, c, if_true, mq, List.length_cons]
      omega
    · have e1 : x.2.2.1 - p = 0 := by omega
      rw [e1, run_zero, List.nil_append]
      have := ih (p := p - x.2.2.1) (nrm_none hn.2.2)
      simp only [ord, c, if_false, List.length_cons]
      omega
