/-! PIECES OF A TAGGED RANGE; SHALLOW TREES; READERS -/
theorem beg_mono {xs : List nd} {i j : Nat} (h : i ≤ j) : beg xs i ≤ beg xs j := by
  have h1 := beg_le (xs.take j) i
  simp only [beg, List.take_take, Nat.min_eq_left h] at h1 ⊢
  exact h1
theorem rng_take (C : List chr) {b c : Nat} (h : b ≤ c) : C.take c = C.take b ++ rng C b c := by
  unfold rng
  have := List.take_append_drop b (C.take c)
  rw [List.take_take, Nat.min_eq_left h] at this
  exact this.symm
theorem rng_split (C : List chr) {a b c : Nat} (h1 : a ≤ b) (h2 : b ≤ c) : rng C a c = rng C a b ++ rng C b c := by
  show (C.take c).drop a = _
  rw [rng_take C h2, List.drop_append, List.length_take]
  by_cases c : b ≤ C.length
  · rw [Nat.min_eq_left c, Nat.sub_eq_zero_of_le h1, List.drop_zero]; rfl
  · rw [rng_nil2 (l := C) (f := b) (by omega), List.drop_nil]; rfl
theorem rng_at {C : List chr} {a e i : Nat} (h : a + i < e) : (rng C a e)[i]? = C[a + i]? := by
  unfold rng
  rw [List.getElem?_drop, List.getElem?_take_of_lt h]
theorem rng_len {C : List chr} {a e : Nat} (h : e ≤ C.length) : (rng C a e).length = e - a := by
  unfold rng
  rw [List.length_drop, List.length_take, Nat.min_eq_left h]
theorem rng_piece {xs : List nd} {k : Nat} {x : nd} (h : xs[k]? = some x) {a e : Nat} (h1 : beg xs k ≤ a) (h3 : e ≤ beg xs k + x.2.2.1) : rng (chs xs) a e = run (x.2.1 + (a - beg xs k)) (e - a) x.2.2.2 := by
  have hb := beg_lt h
  apply run_ext
  · exact rng_len (by rw [chs_len]; omega)
  · intro i hi
    rw [rng_at (by omega)]
    have := beg_chs h (a - beg xs k + i) (by omega)
    have e1 : beg xs k + (a - beg xs k + i) = a + i := by omega
    rw [e1] at this
    rw [this]; congr 2; omega
theorem wt_step (mask bits : Int32) {xs : List nd} {k a e : Nat} {x y : nd} (hx : xs[k]? = some x) (hy : xs[k + 1]? = some y) (zx : 0 < x.2.2.1) (zy : 0 < y.2.2.1) (h1 : a < beg xs (k + 1)) (h2 : beg xs (k + 1) < e) : np none ((rng (chs xs) a (min e (beg xs (k + 1 + 1)))).map (tgc mask bits)) = np none ((rng (chs xs) a (min e (beg xs (k + 1)))).map (tgc mask bits)) + mq (some (x.2.1 + x.2.2.1 - 1, tgf mask bits x.2.2.2)) (y.2.1, tgf mask bits y.2.2.2) := by
  have b1 := beg_succ hx
  have b2 := beg_succ hy
  have hb := beg_lt hy
  rw [Nat.min_eq_right (Nat.le_of_lt h2), rng_split (chs xs) (a := a) (b := beg xs (k + 1)) (by omega) (by omega), List.map_append, np_app]
  congr 1
  rw [rng_piece hy (Nat.le_refl _) (by omega), Nat.sub_self, Nat.add_zero, tgc_run, np_run _ _ _ _ (by omega)]
  congr 1
  refine lst_at ?_
  rw [List.length_map, rng_len (by rw [chs_len]; omega), List.getElem?_map, rng_at (by omega)]
  have := beg_chs hx (x.2.2.1 - 1) (by omega)
  have e1 : beg xs k + (x.2.2.1 - 1) = a + (beg xs (k + 1) - a - 1) := by omega
  rw [e1] at this
  rw [this]
  simp only [Option.map_some, tgc]
  congr 2; omega
theorem y_wt0 {S : xS} {r : Option Nat} {xs : List nd} (R : row S r xs) (cb : ∀ c ∈ chs xs, c.1 < 4096) (mask bits : Int32) {d a e : Nat} (hd : 2 < d) (ha : a < e) (he : e ≤ tot xs) : ∀ n k : Nat, ord xs a ≤ k → k ≤ ord xs (e - 1) → ord xs (e - 1) - k < n → l_Y_withinTagged_35 d n r mask bits (nI (ord xs (e - 1))) (nI (np none ((rng (chs xs) a (min e (beg xs (k + 1)))).map (tgc mask bits)))) (xs[k]?.map fun x => x.1) (nI (k + 1)) S = some (nI (np none ((rng (chs xs) a e).map (tgc mask bits))), S) := by
  have ht := R.2.2.1
  have hl := R.2.2.2
  obtain ⟨⟨hh, T⟩, hn, _, _⟩ := id R
  obtain ⟨xe, he1, he2, he3, _⟩ := ord_in (xs := xs) (p := e - 1) (by omega)
  obtain ⟨xa, ha1, ha2, ha3, _⟩ := ord_in (xs := xs) (p := a) (by omega)
  have hlt := ord_lt (xs := xs) (p := e - 1) (by omega)
  intro n
  induction n with
  | zero => intro k _ _ h; omega
  | succ n ih =>
    intro k k1 k2 hf
    show b_Y_withinTagged_35 d (l_Y_withinTagged_35 d n) r mask bits _ _ _ _ S = _
    simp only [b_Y_withinTagged_35, b_Y_withinTagged_104, b_Y_withinTagged_107]
    rw [iflt (by omega) (by omega)]
    by_cases c : ord xs (e - 1) < k + 1
    · have ek : k = ord xs (e - 1) := by omega
      rw [if_pos c]
      have b1 := beg_succ he1
      rw [ek, Nat.min_eq_left (by omega)]
    · rw [if_neg c]
      obtain ⟨x, hx⟩ : ∃ x, xs[k]? = some x := ⟨_, List.getElem?_eq_getElem (by omega)⟩
      obtain ⟨y, hy⟩ : ∃ y, xs[k + 1]? = some y := ⟨_, List.getElem?_eq_getElem (by omega)⟩
      obtain ⟨lx, qx, ix, jx, kx, hcx⟩ := tr_cell T x (List.mem_of_getElem? hx)
      obtain ⟨ly, qy, iy, jy, ky, hcy⟩ := tr_cell T y (List.mem_of_getElem? hy)
      have zx := nrm_pos hn x (List.mem_of_getElem? hx)
      have zy := nrm_pos hn y (List.mem_of_getElem? hy)
      have bx := cb_piece cb (List.mem_of_getElem? hx) zx
      have bY := cb_piece cb (List.mem_of_getElem? hy) zy
      have g1 : a < beg xs (k + 1) := by
        have b1 := beg_succ ha1
        have b2 := beg_mono (xs := xs) (i := ord xs a + 1) (j := k + 1) (by omega)
        omega
      have g2 : beg xs (k + 1) < e := by
        have b2 := beg_mono (xs := xs) (i := k + 1) (j := ord xs (e - 1)) (by omega)
        omega
      have st := wt_step mask bits hx hy zx zy g1 g2
      simp only [row_num R (d := d) (k := k + 1) (by omega) (by omega), hx, hy, Option.map_some, Option.bind_some, xcase_some, gI0 hcx, gI1 hcx, gI2 hcx, gI0 hcy, gI2 hcy, f_tagged (d := d) (by omega), nI_add, nI_1]
      have ih' := ih (k + 1) (by omega) (by omega) (by omega)
      rw [hy] at ih'
      simp only [Option.map_some] at ih'
      rw [ifeq (by omega) (by omega)]
      by_cases c1 : x.2.1 + x.2.2.1 = y.2.1
      · rw [if_pos c1]
        by_cases c2 : tgf mask bits x.2.2.2 = tgf mask bits y.2.2.2
        · rw [if_pos c2]
          simp only [mq] at st
          rw [if_pos ⟨by omega, c2⟩] at st
          rw [← Nat.add_zero (np none (List.map (tgc mask bits) (rng (chs xs) a (min e (beg xs (k + 1)))))), ← st]; exact ih'
        · rw [if_neg c2]
          simp only [mq] at st
          rw [if_neg (fun g => c2 g.2)] at st
          rw [← st]; exact ih'
      · rw [if_neg c1]
        simp only [mq] at st
        rw [if_neg (fun g => c1 (by omega))] at st
        rw [← st]; exact ih'
theorem y_withinT {S : xS} {r : Option Nat} {xs : List nd} (R : row S r xs) (cb : ∀ c ∈ chs xs, c.1 < 4096) (mask bits : Int32) {d a n : Nat} (hd : 3 < d) (hn : 0 < n) (ha : a + n ≤ tot xs) : f_Y_withinTagged d r (nI a) (nI n) mask bits S = some (nI (np none ((rng (chs xs) a (a + n)).map (tgc mask bits))), S) := by
  obtain ⟨d, rfl⟩ : ∃ e, d = e + 1 := ⟨d - 1, by omega⟩
  have ht := R.2.2.1
  have hl := R.2.2.2
  have nn := R.2.1
  obtain ⟨xa, ha1, ha2, ha3, _⟩ := ord_in (xs := xs) (p := a) (by omega)
  obtain ⟨xe, he1, he2, he3, _⟩ := ord_in (xs := xs) (p := a + n - 1) (by omega)
  have hlt := ord_lt (xs := xs) (p := a + n - 1) (by omega)
  have hle : ord xs a ≤ ord xs (a + n - 1) := by
    rcases Nat.lt_or_ge (ord xs (a + n - 1)) (ord xs a) with g | g
    · exfalso
      have b1 := beg_succ he1
      have b2 := beg_mono (xs := xs) (i := ord xs (a + n - 1) + 1) (j := ord xs a) (by omega)
      omega
    · exact g
  have b1 := beg_succ ha1
  have key := y_wt0 R cb mask bits (d := d) (a := a) (e := a + n) (by omega) (by omega) ha xN (ord xs a) (Nat.le_refl _) hle (by unfold xN; omega)
  rw [rng_piece ha1 ha2 (e := min (a + n) (beg xs (ord xs a + 1))) (by omega), tgc_run, np_run _ _ _ _ (by omega)] at key
  have e1 : nI a + nI n - 1 = nI (a + n - 1) := by
    obtain ⟨k, hk⟩ : ∃ k, a + n = k + 1 := ⟨a + n - 1, by omega⟩
    rw [nI_add, hk, nI_pred]; rfl
  show e_Y_withinTagged d r (nI a) (nI n) mask bits S = _
  simp only [e_Y_withinTagged, e1, row_ord R (d := d) (p := a) (by omega) (by omega), row_ord R (d := d) (p := a + n - 1) (by omega) (by omega), row_num R (d := d) (k := ord xs a) (by omega) (by omega), Option.bind_some, nI_1]
  exact key
theorem y_tag {S : xS} {r : Option Nat} {xs : List nd} (R : row S r xs) (cb : ∀ c ∈ chs xs, c.1 < 4096) (mask bits : Int32) {d a n : Nat} (hd : 4 < d) (ha : a + n ≤ tot xs) : f_Y_afterTag d r (nI a) (nI n) mask bits S = some (nI (np none ((chs xs).take a ++ ((rng (chs xs) a (a + n)).map (tgc mask bits) ++ (chs xs).drop (a + n)))), S) := by
  obtain ⟨d, rfl⟩ : ∃ e, d = e + 1 := ⟨d - 1, by omega⟩
  have ht := R.2.2.1
  show e_Y_afterTag d r (nI a) (nI n) mask bits S = _
  simp only [e_Y_afterTag]
  by_cases c : 1 ≤ n
  · have c0 : (1 : Int32) ≤ nI n := nI_le (a := 1) c (by omega)
    rw [if_pos c0]
    obtain ⟨y, hy⟩ : ∃ y, (chs xs)[a]? = some y := ⟨_, List.getElem?_eq_getElem (by rw [chs_len]; omega)⟩
    obtain ⟨w, hw⟩ : ∃ w, (chs xs)[a + n - 1]? = some w := ⟨_, List.getElem?_eq_getElem (by rw [chs_len]; omega)⟩
    have hby := cb y (List.mem_of_getElem? hy)
    have hbw := cb w (List.mem_of_getElem? hw)
    obtain ⟨ml, f1, h1⟩ := y_left R cb (d := d) (a := a) (w := y.1) (t := tgf mask bits y.2) (by omega) (by omega) (by omega)
    obtain ⟨mr, f2, h2⟩ := y_right R cb (d := d) (a := a + n) (w := w.1) (t := tgf mask bits w.2) (by omega) (by omega) (by omega)
    have hlen := rng_len (C := chs xs) (a := a) (e := a + n) (by rw [chs_len]; omega)
    have key := np_three (A := (chs xs).take a) (M := (rng (chs xs) a (a + n)).map (tgc mask bits)) (B := (chs xs).drop (a + n)) (y := (y.1, tgf mask bits y.2)) (w := (w.1, tgf mask bits w.2)) (by
        rw [List.head?_eq_getElem?, List.getElem?_map, rng_at (by omega), Nat.add_zero, hy]; rfl) (lst_at (by
        rw [List.length_map, hlen, List.getElem?_map, rng_at (by omega)]
        have e : a + (a + n - a - 1) = a + n - 1 := by omega
        rw [e, hw]; rfl)) h1 h2
    have e1 : nI (a + n) - 1 = nI (a + n - 1) := by
      obtain ⟨k, hk⟩ : ∃ k, a + n = k + 1 := ⟨a + n - 1, by omega⟩
      rw [hk, nI_pred]; rfl
    simp only [nI_add, e1, r_tag R (d := d) (by omega) hy, r_tag R (d := d) (by omega) hw, f_tagged (d := d) (by omega), y_before R (d := d) (a := a) (by omega) (by omega), y_withinT R cb mask bits (d := d) (a := a) (n := n) (by omega) (by omega) ha, y_behind R (d := d) (a := a + n) (by omega) (by omega), r_source R (d := d) (by omega) hy, r_source R (d := d) (by omega) hw, f1, f2, Option.bind_some]
    rw [pk_sub (by omega), pk_sub (by omega)]
    congr 3; omega
  · have e : n = 0 := by omega
    subst e
    rw [if_neg (show ¬ (1 : Int32) ≤ nI 0 by decide), rng_nil (by omega)]
    simp only [row_pieces R (d := d) (by omega), Option.bind_some, List.map_nil, List.nil_append, Nat.add_zero, List.take_append_drop, row_np R]
theorem sh_tab : ∀ h : Fin 23, 2 < h.val → ((1 : Int64) <<< ((nI h.val - 2).toInt64 &&& 63)) = lN (2 ^ (h.val - 2)) := by decide
theorem r_shallow {S : xS} {r : Option Nat} {xs : List nd} (R : row S r xs) {d : Nat} (hd : 1 < d) : f_R_isShallow d r S = some (1, S) := by
  obtain ⟨d, rfl⟩ : ∃ e, d = e + 1 := ⟨d - 1, by omega⟩
  obtain ⟨⟨h, T⟩, hn, ht, hl⟩ := R
  have h1 := tr_low T hl
  have h2 := tr_pow T
  show e_R_isShallow d r S = _
  simp only [e_R_isShallow, r_height T (d := d) (by omega), r_pieces T (d := d) (by omega), Option.bind_some]
  have i2 : (2 : Int32) = nI 2 := rfl
  have i40 : (40 : Int32) = nI 40 := rfl
  by_cases c : 2 < h
  · rw [if_pos (show (2 : Int32) < nI h from nI_lt (a := 2) c (by omega)), if_neg (show ¬ (40 : Int32) < nI h from nI_nlt (a := 40) (by omega) (by omega))]
    have e1 := sh_tab ⟨h, by omega⟩ c
    simp only at e1
    have hp : 2 ^ (h - 2) ≤ (xs.length + 1) * (xs.length + 1) := Nat.le_trans (Nat.pow_le_pow_right (by decide) (by omega)) h2
    have hm : (xs.length + 1) * (xs.length + 1) ≤ 2001 * 2001 := Nat.mul_le_mul (by omega) (by omega)
    have e2 : ((nI xs.length).toInt64 + 1) * ((nI xs.length).toInt64 + 1) = lN ((xs.length + 1) * (xs.length + 1)) := by
      rw [nI_l (by omega), lN_1, lN_mul]
    rw [e1, e2]
    have e3 : ¬ (0 : Int32) < lg_cmp (lN (2 ^ (h - 2))) (lN ((xs.length + 1) * (xs.length + 1))) := by
      unfold lg_cmp
      have g : ¬ lN (2 ^ (h - 2)) > lN ((xs.length + 1) * (xs.length + 1)) := by
        intro g
        have := (lN_lt (by omega) (by omega)).mp g
        omega
      rw [if_neg g]
      split <;> decide
    rw [if_neg e3]
    rfl
  · rw [if_neg (show ¬ (2 : Int32) < nI h from nI_nlt (a := 2) (by omega) (by omega))]
    rfl
/-! readers -/
theorem ord_uniq {xs : List nd} : ∀ {k q : Nat} {x : nd}, xs[k]? = some x → beg xs k ≤ q → q < beg xs k + x.2.2.1 → ord xs q = k := by
  induction xs with
  | nil => intro k q x h; simp at h
  | cons y xs ih =>
    intro k q x h h1 h2
    cases k with
    | zero =>
      simp at h; subst h
      rw [beg_zero] at h2
      simp only [ord]; rw [if_pos (by omega)]
    | succ k =>
      have b : beg (y :: xs) (k + 1) = y.2.2.1 + beg xs k := by simp only [beg, List.take_succ_cons, tot_cons]
      rw [b] at h1 h2
      simp only [ord]
      rw [if_neg (by omega), ih (q := q - y.2.2.1) (by simpa using h) (by omega) (by omega)]
def rcell (r : Option Nat) (o : Int32) (c : Option Nat) (f : Int32) : xO := .inr (3, [va_rf r, .int o, va_rf c, .int f])
/-- a reader that stands before place p -/
def rd (xs : List nd) (r : Option Nat) (p : Nat) : xO := rcell r (nI (ord xs p)) (xs[ord xs p]?.map fun x => x.1) (nI (p - beg xs (ord xs p)))
theorem row_kept {S S' : xS} {r : Option Nat} {xs : List nd} (R : row S r xs) (hk : ∀ a ∈ ads xs, S'.1 a = S.1 a) : row S' r xs := by
  obtain ⟨⟨h, T⟩, h2⟩ := R
  exact ⟨⟨h, tr_kept T hk⟩, h2⟩
theorem d_init {S : xS} {r : Option Nat} {xs : List nd} (R : row S r xs) {d p K : Nat} (hd : 2 < d) (hp : p ≤ tot xs) {a b : Option Nat} {i j : Int32} (hk : S.1 K = some (rcell a i b j)) (nK : K ∉ ads xs) : f_D_init d (some K) r (nI p) S = some ((), xset S K (rd xs r p)) := by
  obtain ⟨d, rfl⟩ : ∃ e, d = e + 1 := ⟨d - 1, by omega⟩
  have ht := R.2.2.1
  have ho := ord_le xs p
  have hl := R.2.2.2
  have R' : ∀ o, row (xset S K o) r xs := fun o => row_kept R fun a ha => xset_ne _ (fun g => nK (by rw [← g]; exact ha))
  have p0 : ∀ (S : xS) (a b v : Option Nat) (i j : Int32), S.1 K = some (rcell a i b j) → xput S (some K) 3 0 (va_rf v) = some (xset S K (rcell v i b j)) := fun S a b v i j h => by simp [xput, xobj, h, rcell]
  have p1 : ∀ (S : xS) (a b : Option Nat) (i j v : Int32), S.1 K = some (rcell a i b j) → xput S (some K) 3 1 (.int v) = some (xset S K (rcell a v b j)) := fun S a b i j v h => by simp [xput, xobj, h, rcell]
  have p2 : ∀ (S : xS) (a b v : Option Nat) (i j : Int32), S.1 K = some (rcell a i b j) → xput S (some K) 3 2 (va_rf v) = some (xset S K (rcell a i v j)) := fun S a b v i j h => by simp [xput, xobj, h, rcell]
  have p3 : ∀ (S : xS) (a b : Option Nat) (i j v : Int32), S.1 K = some (rcell a i b j) → xput S (some K) 3 3 (.int v) = some (xset S K (rcell a i b v)) := fun S a b i j v h => by simp [xput, xobj, h, rcell]
  have q1 : ∀ (S : xS) (a b : Option Nat) (i j : Int32), S.1 K = some (rcell a i b j) → xgI S (some K) 3 1 = some i := fun S a b i j h => by simp [xgI, xobj, h, rcell]
  show e_D_init d (some K) r (nI p) S = _
  simp only [e_D_init, xcase_some, p0 _ _ _ _ _ _ hk, Option.bind_some, row_ord (R' _) (d := d) (p := p) (by omega) (by omega), p1 _ _ _ _ _ _ (xset_at _ _ _), xset_two, q1 _ _ _ _ _ (xset_at _ _ _), row_num (R' _) (d := d) (k := ord xs p) (by omega) (by omega), p2 _ _ _ _ _ _ (xset_at _ _ _), row_start (R' _) (d := d) (k := ord xs p) (by omega) (by omega), p3 _ _ _ _ _ _ (xset_at _ _ _)]
  have hb : beg xs (ord xs p) ≤ p := by
    rcases Nat.lt_or_ge p (tot xs) with g | g
    · obtain ⟨x, _, h2, _⟩ := ord_in g
      exact h2
    · exact Nat.le_trans (beg_le xs _) g
  rw [pk_sub hb]
  rfl
theorem d_next {S : xS} {r : Option Nat} {xs : List nd} (R : row S r xs) {d p K : Nat} {y : chr} (hd : 2 < d) (hy : (chs xs)[p]? = some y) (hk : S.1 K = some (rd xs r p)) (nK : K ∉ ads xs) : f_D_nextSource d (some K) S = some (nI y.1, xset S K (rd xs r (p + 1))) := by
  obtain ⟨d, rfl⟩ : ∃ e, d = e + 1 := ⟨d - 1, by omega⟩
  have ht := R.2.2.1
  have hl := R.2.2.2
  have hp : p < tot xs := by rw [← chs_len]; exact (List.getElem?_eq_some_iff.mp hy).1
  obtain ⟨⟨hh, T⟩, hn, _, _⟩ := id R
  obtain ⟨x, h1, h2, h3, h4⟩ := ord_in hp
  have hlt := ord_lt hp
  have bb := beg_succ h1
  have bt := beg_lt h1
  obtain ⟨l, q, i, j, k, hc⟩ := tr_cell T x (List.mem_of_getElem? h1)
  have hx : x.1 ∈ ads xs := by unfold ads; exact List.mem_map_of_mem (List.mem_of_getElem? h1)
  have nx : x.1 ≠ K := fun g => nK (by rw [← g]; exact hx)
  have hc' : ∀ o, (xset S K o).1 x.1 = some (pcell (nI x.2.1) (nI x.2.2.1) x.2.2.2 l q i j k) := fun o => by rw [xset_ne _ nx, hc]
  have R' : ∀ o, row (xset S K o) r xs := fun o => row_kept R fun a ha => xset_ne _ (fun g => nK (by rw [← g]; exact ha))
  have p1 : ∀ (S : xS) (a b : Option Nat) (i j v : Int32), S.1 K = some (rcell a i b j) → xput S (some K) 3 1 (.int v) = some (xset S K (rcell a v b j)) := fun S a b i j v h => by simp [xput, xobj, h, rcell]
  have p2 : ∀ (S : xS) (a b v : Option Nat) (i j : Int32), S.1 K = some (rcell a i b j) → xput S (some K) 3 2 (va_rf v) = some (xset S K (rcell a i v j)) := fun S a b v i j h => by simp [xput, xobj, h, rcell]
  have p3 : ∀ (S : xS) (a b : Option Nat) (i j v : Int32), S.1 K = some (rcell a i b j) → xput S (some K) 3 3 (.int v) = some (xset S K (rcell a i b v)) := fun S a b i j v h => by simp [xput, xobj, h, rcell]
  have q0 : ∀ (S : xS) (a b : Option Nat) (i j : Int32), S.1 K = some (rcell a i b j) → xgR S (some K) 3 0 = some a := fun S a b i j h => by cases a <;> simp [xgR, xobj, h, rcell, va_rf]
  have q1 : ∀ (S : xS) (a b : Option Nat) (i j : Int32), S.1 K = some (rcell a i b j) → xgI S (some K) 3 1 = some i := fun S a b i j h => by simp [xgI, xobj, h, rcell]
  have q2 : ∀ (S : xS) (a b : Option Nat) (i j : Int32), S.1 K = some (rcell a i b j) → xgR S (some K) 3 2 = some b := fun S a b i j h => by cases b <;> simp [xgR, xobj, h, rcell, va_rf]
  have q3 : ∀ (S : xS) (a b : Option Nat) (i j : Int32), S.1 K = some (rcell a i b j) → xgI S (some K) 3 3 = some j := fun S a b i j h => by simp [xgI, xobj, h, rcell]
  rw [h4] at hy
  cases hy
  have hk' : S.1 K = some (rcell r (nI (ord xs p)) (some x.1) (nI (p - beg xs (ord xs p)))) := by rw [hk, rd, h1]; rfl
  show e_D_nextSource d (some K) S = _
  simp only [e_D_nextSource, b_D_nextSource_76, q2 _ _ _ _ _ hk', Option.bind_some, xcase_some, gI0 hc, q3 _ _ _ _ _ hk', p3 _ _ _ _ _ _ hk', q3 _ _ _ _ _ (xset_at _ _ _), q2 _ _ _ _ _ (xset_at _ _ _), gI1 (hc' _), nI_1, nI_add]
  rw [iflt (by omega) (by omega)]
  by_cases c : p - beg xs (ord xs p) + 1 < x.2.2.1
  · rw [if_pos c]
    have e : ord xs (p + 1) = ord xs p := ord_uniq h1 (by omega) (by omega)
    rw [rd, e, h1]
    congr 3; simp only [Option.map_some]; congr 2; omega
  · rw [if_neg c]
    simp only [q1 _ _ _ _ _ (xset_at _ _ _), p1 _ _ _ _ _ _ (xset_at _ _ _), xset_two, Option.bind_some, q0 _ _ _ _ _ (xset_at _ _ _), nI_1, row_num (R' _) (d := d) (k := ord xs p + 1) (by omega) (by omega), p2 _ _ _ _ _ _ (xset_at _ _ _), p3 _ _ _ _ _ _ (xset_at _ _ _)]
    have ep : p + 1 = beg xs (ord xs p + 1) := by omega
    have e : ord xs (p + 1) = ord xs p + 1 := by
      cases hz : xs[ord xs p + 1]? with
      | none =>
        have hz' := List.getElem?_eq_none_iff.mp hz
        have e1 : xs.length = ord xs p + 1 := by omega
        rw [ep, ← e1]
        exact ord_end (by rw [beg, List.take_of_length_le (Nat.le_refl _)]; exact Nat.le_refl _)
      | some z =>
        have zp := nrm_pos hn z (List.mem_of_getElem? hz)
        rw [ep]
        exact ord_uniq hz (Nat.le_refl _) (by omega)
    rw [rd, e, ← ep, Nat.sub_self]
    rfl
theorem d_end {S : xS} {r : Option Nat} {xs : List nd} {d p K : Nat} (hd : 0 < d) (hp : tot xs ≤ p) (hk : S.1 K = some (rd xs r p)) : f_D_nextSource d (some K) S = some (-1, S) := by
  obtain ⟨d, rfl⟩ : ∃ e, d = e + 1 := ⟨d - 1, by omega⟩
  have e : xs[ord xs p]? = none := by rw [ord_end hp]; simp
  have hk' : xgR S (some K) 3 2 = some none := by
    simp [xgR, xobj, hk, rd, rcell, e, va_rf]
  show e_D_nextSource d (some K) S = _
  simp only [e_D_nextSource, hk', Option.bind_some, xcase_none]
