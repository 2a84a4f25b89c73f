/-! THE TREES THAT HOLD ROWS -/
/-- a node's cell -/
def pcell (s z t : Int32) (l q : Option Nat) (h p c : Int32) : xO := .inr (2, [.int s, .int z, .int t, va_rf l, va_rf q, .int h, .int p, .int c])
/-- a tree: its height, its root, its row -/
def tr (H : Nat → Option xO) (h : Nat) (r : Option Nat) (xs : List nd) : Prop :=
  ∀ P : Nat → Option Nat → List nd → Prop, P 0 none [] →
    (∀ (a s z : Nat) (t : Int32) (l q : Option Nat) (hl hr : Nat) (xl xr : List nd), H a = some (pcell (nI s) (nI z) t l q (nI (max hl hr + 1)) (nI (xl.length + xr.length + 1)) (nI (tot xl + tot xr + z))) → hl ≤ hr + 1 → hr ≤ hl + 1 → P hl l xl → P hr q xr → P (max hl hr + 1) (some a) (xl ++ (a, s, z, t) :: xr)) → P h r xs
theorem tr_nil (H : Nat → Option xO) : tr H 0 none [] := fun _ h0 _ => h0
theorem tr_node {H : Nat → Option xO} {a s z : Nat} {t : Int32} {l q : Option Nat} {hl hr : Nat} {xl xr : List nd} (ha : H a = some (pcell (nI s) (nI z) t l q (nI (max hl hr + 1)) (nI (xl.length + xr.length + 1)) (nI (tot xl + tot xr + z)))) (h1 : hl ≤ hr + 1) (h2 : hr ≤ hl + 1) (tl : tr H hl l xl) (tq : tr H hr q xr) : tr H (max hl hr + 1) (some a) (xl ++ (a, s, z, t) :: xr) :=
  fun P h0 hs => hs a s z t l q hl hr xl xr ha h1 h2 (tl P h0 hs) (tq P h0 hs)
theorem tr_ind {H : Nat → Option xO} (Q : Nat → Option Nat → List nd → Prop) (h0 : Q 0 none [])
    (hs : ∀ (a s z : Nat) (t : Int32) (l q : Option Nat) (hl hr : Nat) (xl xr : List nd), H a = some (pcell (nI s) (nI z) t l q (nI (max hl hr + 1)) (nI (xl.length + xr.length + 1)) (nI (tot xl + tot xr + z))) → hl ≤ hr + 1 → hr ≤ hl + 1 → tr H hl l xl → tr H hr q xr → Q hl l xl → Q hr q xr → Q (max hl hr + 1) (some a) (xl ++ (a, s, z, t) :: xr)) {h : Nat} {r : Option Nat} {xs : List nd} (T : tr H h r xs) : Q h r xs := by
  have key := T (fun h r xs => tr H h r xs ∧ Q h r xs) ⟨tr_nil H, h0⟩ (fun a s z t l q hl hr xl xr ha h1 h2 pl pr => ⟨tr_node ha h1 h2 pl.1 pr.1, hs a s z t l q hl hr xl xr ha h1 h2 pl.1 pr.1 pl.2 pr.2⟩)
  exact key.2
theorem tr_inv {H : Nat → Option xO} {h : Nat} {r : Option Nat} {xs : List nd} (T : tr H h r xs) : (h = 0 ∧ r = none ∧ xs = []) ∨ ∃ (a s z : Nat) (t : Int32) (l q : Option Nat) (hl hr : Nat) (xl xr : List nd), h = max hl hr + 1 ∧ r = some a ∧ xs = xl ++ (a, s, z, t) :: xr ∧ H a = some (pcell (nI s) (nI z) t l q (nI (max hl hr + 1)) (nI (xl.length + xr.length + 1)) (nI (tot xl + tot xr + z))) ∧ hl ≤ hr + 1 ∧ hr ≤ hl + 1 ∧ tr H hl l xl ∧ tr H hr q xr :=
  tr_ind (fun h r xs => (h = 0 ∧ r = none ∧ xs = []) ∨ ∃ (a s z : Nat) (t : Int32) (l q : Option Nat) (hl hr : Nat) (xl xr : List nd), h = max hl hr + 1 ∧ r = some a ∧ xs = xl ++ (a, s, z, t) :: xr ∧ H a = some (pcell (nI s) (nI z) t l q (nI (max hl hr + 1)) (nI (xl.length + xr.length + 1)) (nI (tot xl + tot xr + z))) ∧ hl ≤ hr + 1 ∧ hr ≤ hl + 1 ∧ tr H hl l xl ∧ tr H hr q xr) (Or.inl ⟨rfl, rfl, rfl⟩)
    (fun a s z t l q hl hr xl xr ha h1 h2 tl tq _ _ => Or.inr ⟨a, s, z, t, l, q, hl, hr, xl, xr, rfl, rfl, rfl, ha, h1, h2, tl, tq⟩) T
theorem tr_none {H : Nat → Option xO} {h : Nat} {xs : List nd} (T : tr H h none xs) : h = 0 ∧ xs = [] := by
  rcases tr_inv T with ⟨h1, _, h3⟩ | ⟨a, s, z, t, l, q, hl, hr, xl, xr, _, h2, _⟩
  · exact ⟨h1, h3⟩
  · cases h2
theorem tr_some {H : Nat → Option xO} {h a : Nat} {xs : List nd} (T : tr H h (some a) xs) : ∃ (s z : Nat) (t : Int32) (l q : Option Nat) (hl hr : Nat) (xl xr : List nd), h = max hl hr + 1 ∧ xs = xl ++ (a, s, z, t) :: xr ∧ H a = some (pcell (nI s) (nI z) t l q (nI (max hl hr + 1)) (nI (xl.length + xr.length + 1)) (nI (tot xl + tot xr + z))) ∧ hl ≤ hr + 1 ∧ hr ≤ hl + 1 ∧ tr H hl l xl ∧ tr H hr q xr := by
  rcases tr_inv T with ⟨_, h2, _⟩ | ⟨a', s, z, t, l, q, hl, hr, xl, xr, e1, e2, e3, e4, e5, e6, e7, e8⟩
  · cases h2
  · cases e2
    exact ⟨s, z, t, l, q, hl, hr, xl, xr, e1, e3, e4, e5, e6, e7, e8⟩
/-- a tree looks at its own nodes alone -/
theorem tr_kept {H H' : Nat → Option xO} {h : Nat} {r : Option Nat} {xs : List nd} (T : tr H h r xs) (hk : ∀ a ∈ ads xs, H' a = H a) : tr H' h r xs := by
  refine tr_ind (H := H) (fun h r xs => (∀ a ∈ ads xs, H' a = H a) → tr H' h r xs) (fun _ => tr_nil H') ?_ T hk
  intro a s z t l q hl hr xl xr ha h1 h2 tl tq il iq hk
  refine tr_node (by rw [hk a (by simp [ads]), ha]) h1 h2 (il fun b hb => hk b ?_) (iq fun b hb => hk b ?_)
  · rw [ads_app]; exact List.mem_append_left _ hb
  · rw [ads_app, ads_cons]; exact List.mem_append_right _ (List.mem_cons_of_mem _ hb)
/-- the height of a tree with few pieces -/
theorem tr_pow {H : Nat → Option xO} {h : Nat} {r : Option Nat} {xs : List nd} (T : tr H h r xs) : 2 ^ h ≤ (xs.length + 1) * (xs.length + 1) := by
  refine tr_ind (H := H) (fun h r xs => 2 ^ h ≤ (xs.length + 1) * (xs.length + 1)) (by decide) ?_ T
  intro a s z t l q hl hr xl xr ha h1 h2 tl tq il iq
  have e : (xl ++ (a, s, z, t) :: xr).length + 1 = (xl.length + 1) + (xr.length + 1) := by simp; omega
  rw [e]
  generalize xl.length + 1 = m1 at il ⊢
  generalize xr.length + 1 = m2 at iq ⊢
  have key : ∀ (x y i j : Nat), 2 ^ i ≤ x * x → 2 ^ j ≤ y * y → j ≤ i → i ≤ j + 1 → 2 ^ (i + 1) ≤ (x + y) * (x + y) := by
    intro x y i j hx hy hji hij
    have hxy : (x + y) * (x + y) = x * x + 2 * (x * y) + y * y := by
      rw [Nat.add_mul, Nat.mul_add, Nat.mul_add, Nat.mul_comm y x]; omega
    rw [hxy, Nat.pow_succ]
    rcases Nat.lt_or_ge j i with hlt | hge
    · have ei : i = j + 1 := by omega
      subst ei
      rw [Nat.pow_succ] at hx ⊢
      have hp : 2 ^ j ≤ x * y := by
        rcases Nat.lt_or_ge (x * y) (2 ^ j) with hb | hb
        · exfalso
          have h3 : (x * y) * (x * y) < 2 ^ j * 2 ^ j := Nat.mul_self_lt_mul_self hb
          have h4 : (2 ^ j * 2) * 2 ^ j ≤ (x * x) * (y * y) := Nat.mul_le_mul hx hy
          have h5 : (x * x) * (y * y) = (x * y) * (x * y) := by
            rw [Nat.mul_mul_mul_comm]
          have h6 : 2 ^ j * 2 ^ j ≤ (2 ^ j * 2) * 2 ^ j := Nat.mul_le_mul_right _ (by omega)
          omega
        · exact hb
      omega
    · have ei : i = j := by omega
      subst ei
      have hp : 2 ^ i ≤ x * y := by
        rcases Nat.lt_or_ge (x * y) (2 ^ i) with hb | hb
        · exfalso
          have h3 : (x * y) * (x * y) < 2 ^ i * 2 ^ i := Nat.mul_self_lt_mul_self hb
          have h4 : 2 ^ i * 2 ^ i ≤ (x * x) * (y * y) := Nat.mul_le_mul hx hy
          have h5 : (x * x) * (y * y) = (x * y) * (x * y) := by
            rw [Nat.mul_mul_mul_comm]
          omega
        · exact hb
      omega
  rcases Nat.le_total hl hr with hle | hle
  · rw [Nat.max_eq_right hle, Nat.add_comm m1 m2]
    exact key m2 m1 hr hl iq il hle (by omega)
  · rw [Nat.max_eq_left hle]
    exact key m1 m2 hl hr il iq hle (by omega)

/-- a node of the row -/
theorem tr_cell {H : Nat → Option xO} {h : Nat} {r : Option Nat} {xs : List nd} (T : tr H h r xs) : ∀ x ∈ xs, ∃ (l q : Option Nat) (i j k : Int32), H x.1 = some (pcell (nI x.2.1) (nI x.2.2.1) x.2.2.2 l q i j k) := by
  refine tr_ind (H := H) (fun h r xs => ∀ x ∈ xs, ∃ (l q : Option Nat) (i j k : Int32), H x.1 = some (pcell (nI x.2.1) (nI x.2.2.1) x.2.2.2 l q i j k)) (fun x hx => nomatch hx) ?_ T
  intro a s z t l q hl hr xl xr ha _ _ _ _ il iq x hx
  rcases List.mem_append.mp hx with h | h
  · exact il x h
  · rcases List.mem_cons.mp h with rfl | h
    · exact ⟨l, q, _, _, _, ha⟩
    · exact iq x h
/-- the root's sums -/
theorem tr_top {H : Nat → Option xO} {h : Nat} {r : Option Nat} {xs : List nd} (T : tr H h r xs) : (r = none ∧ h = 0 ∧ xs = []) ∨ ∃ (a : Nat) (s z t : Int32) (l q : Option Nat), r = some a ∧ a ∈ ads xs ∧ H a = some (pcell s z t l q (nI h) (nI xs.length) (nI (tot xs))) := by
  rcases tr_inv T with ⟨h1, h2, h3⟩ | ⟨a, s, z, t, l, q, hl, hr, xl, xr, e1, e2, e3, e4, _⟩
  · exact .inl ⟨h2, h1, h3⟩
  · refine .inr ⟨a, nI s, nI z, t, l, q, e2, by rw [e3]; simp [ads], ?_⟩
    rw [e4, e1, e3]
    have g1 : (xl ++ (a, s, z, t) :: xr).length = xl.length + xr.length + 1 := by simp; omega
    have g2 : tot (xl ++ (a, s, z, t) :: xr) = tot xl + tot xr + z := by rw [tot_app, tot_cons]; simp only; omega
    rw [g1, g2]
theorem tr_hlen {H : Nat → Option xO} {h : Nat} {r : Option Nat} {xs : List nd} (T : tr H h r xs) : h ≤ xs.length := by
  refine tr_ind (H := H) (fun h r xs => h ≤ xs.length) (Nat.le_refl 0) ?_ T
  intro a s z t l q hl hr xl xr ha _ _ _ _ il iq
  simp only [List.length_append, List.length_cons]; omega
/-- a tree with at most 2000 pieces is at most 22 high -/
theorem tr_low {H : Nat → Option xO} {h : Nat} {r : Option Nat} {xs : List nd} (T : tr H h r xs) (hn : xs.length ≤ 2000) : h ≤ 22 := by
  have h1 := tr_pow T
  rcases Nat.lt_or_ge 22 h with hlt | hge
  · exfalso
    have h2 : 2 ^ 23 ≤ 2 ^ h := Nat.pow_le_pow_right (by decide) hlt
    have h3 : (xs.length + 1) * (xs.length + 1) ≤ 2001 * 2001 := Nat.mul_le_mul (by omega) (by omega)
    omega
  · exact hge
/-- fields of a cell -/
theorem gI0 {S : xS} {a : Nat} {s z t : Int32} {l q : Option Nat} {h p c : Int32} (e : S.1 a = some (pcell s z t l q h p c)) : xgI S (some a) 2 0 = some s := by simp [xgI, xobj, e, pcell]
theorem gI1 {S : xS} {a : Nat} {s z t : Int32} {l q : Option Nat} {h p c : Int32} (e : S.1 a = some (pcell s z t l q h p c)) : xgI S (some a) 2 1 = some z := by simp [xgI, xobj, e, pcell]
theorem gI2 {S : xS} {a : Nat} {s z t : Int32} {l q : Option Nat} {h p c : Int32} (e : S.1 a = some (pcell s z t l q h p c)) : xgI S (some a) 2 2 = some t := by simp [xgI, xobj, e, pcell]
theorem gI5 {S : xS} {a : Nat} {s z t : Int32} {l q : Option Nat} {h p c : Int32} (e : S.1 a = some (pcell s z t l q h p c)) : xgI S (some a) 2 5 = some h := by simp [xgI, xobj, e, pcell]
theorem gI6 {S : xS} {a : Nat} {s z t : Int32} {l q : Option Nat} {h p c : Int32} (e : S.1 a = some (pcell s z t l q h p c)) : xgI S (some a) 2 6 = some p := by simp [xgI, xobj, e, pcell]
theorem gI7 {S : xS} {a : Nat} {s z t : Int32} {l q : Option Nat} {h p c : Int32} (e : S.1 a = some (pcell s z t l q h p c)) : xgI S (some a) 2 7 = some c := by simp [xgI, xobj, e, pcell]
theorem gR3 {S : xS} {a : Nat} {s z t : Int32} {l q : Option Nat} {h p c : Int32} (e : S.1 a = some (pcell s z t l q h p c)) : xgR S (some a) 2 3 = some l := by cases l <;> simp [xgR, xobj, e, pcell, va_rf]
theorem gR4 {S : xS} {a : Nat} {s z t : Int32} {l q : Option Nat} {h p c : Int32} (e : S.1 a = some (pcell s z t l q h p c)) : xgR S (some a) 2 4 = some q := by cases q <;> simp [xgR, xobj, e, pcell, va_rf]
theorem gO2 {S : xS} {a : Nat} {s z t : Int32} {l q : Option Nat} {h p c : Int32} (e : S.1 a = some (pcell s z t l q h p c)) : ∃ w, xobj S (some a) 2 = some w := ⟨_, xobj_of e⟩
theorem pP0 {S : xS} {a : Nat} {s z t : Int32} {l q : Option Nat} {h p c : Int32} (e : S.1 a = some (pcell s z t l q h p c)) (v : Int32) : xput S (some a) 2 0 (.int v) = some (xset S a (pcell v z t l q h p c)) := by simp [xput, xobj, e, pcell]
theorem pP1 {S : xS} {a : Nat} {s z t : Int32} {l q : Option Nat} {h p c : Int32} (e : S.1 a = some (pcell s z t l q h p c)) (v : Int32) : xput S (some a) 2 1 (.int v) = some (xset S a (pcell s v t l q h p c)) := by simp [xput, xobj, e, pcell]
theorem pP2 {S : xS} {a : Nat} {s z t : Int32} {l q : Option Nat} {h p c : Int32} (e : S.1 a = some (pcell s z t l q h p c)) (v : Int32) : xput S (some a) 2 2 (.int v) = some (xset S a (pcell s z v l q h p c)) := by simp [xput, xobj, e, pcell]
theorem pP3 {S : xS} {a : Nat} {s z t : Int32} {l q : Option Nat} {h p c : Int32} (e : S.1 a = some (pcell s z t l q h p c)) (v : Option Nat) : xput S (some a) 2 3 (va_rf v) = some (xset S a (pcell s z t v q h p c)) := by simp [xput, xobj, e, pcell]
theorem pP4 {S : xS} {a : Nat} {s z t : Int32} {l q : Option Nat} {h p c : Int32} (e : S.1 a = some (pcell s z t l q h p c)) (v : Option Nat) : xput S (some a) 2 4 (va_rf v) = some (xset S a (pcell s z t l v h p c)) := by simp [xput, xobj, e, pcell]
theorem pP5 {S : xS} {a : Nat} {s z t : Int32} {l q : Option Nat} {h p c : Int32} (e : S.1 a = some (pcell s z t l q h p c)) (v : Int32) : xput S (some a) 2 5 (.int v) = some (xset S a (pcell s z t l q v p c)) := by simp [xput, xobj, e, pcell]
theorem pP6 {S : xS} {a : Nat} {s z t : Int32} {l q : Option Nat} {h p c : Int32} (e : S.1 a = some (pcell s z t l q h p c)) (v : Int32) : xput S (some a) 2 6 (.int v) = some (xset S a (pcell s z t l q h v c)) := by simp [xput, xobj, e, pcell]
theorem pP7 {S : xS} {a : Nat} {s z t : Int32} {l q : Option Nat} {h p c : Int32} (e : S.1 a = some (pcell s z t l q h p c)) (v : Int32) : xput S (some a) 2 7 (.int v) = some (xset S a (pcell s z t l q h p v)) := by simp [xput, xobj, e, pcell]
theorem xset_at (S : xS) (a : Nat) (o : xO) : (xset S a o).1 a = some o := va_up_self _ _ _
theorem xset_ne {S : xS} {a b : Nat} (o : xO) (h : b ≠ a) : (xset S a o).1 b = S.1 b := va_up_ne _ _ h
theorem xset_two (S : xS) (a : Nat) (o o' : xO) : xset (xset S a o) a o' = xset S a o' := by
  simp only [xset, Prod.mk.injEq, and_true]
  funext j
  simp only [va_up]
  split <;> rfl
theorem xset_2 (S : xS) (a : Nat) (o : xO) : (xset S a o).2 = S.2 := rfl
theorem ifle {α : Type} {a b : Nat} (ha : a < 2 ^ 31) (hb : b < 2 ^ 31) (x y : α) : (if nI a ≤ nI b then x else y) = if a ≤ b then x else y := by
  by_cases c : a ≤ b
  · rw [if_pos c, if_pos ((nI_leI ha hb).mpr c)]
  · rw [if_neg c, if_neg (fun e => c ((nI_leI ha hb).mp e))]
theorem iflt {α : Type} {a b : Nat} (ha : a < 2 ^ 31) (hb : b < 2 ^ 31) (x y : α) : (if nI a < nI b then x else y) = if a < b then x else y := by
  by_cases c : a < b
  · rw [if_pos c, if_pos ((nI_ltI ha hb).mpr c)]
  · rw [if_neg c, if_neg (fun e => c ((nI_ltI ha hb).mp e))]
theorem ifeq {α : Type} {a b : Nat} (ha : a < 2 ^ 31) (hb : b < 2 ^ 31) (x y : α) : (if nI a = nI b then x else y) = if a = b then x else y := by
  by_cases c : a = b
  · rw [if_pos c, if_pos ((nI_eq ha hb).mpr c)]
  · rw [if_neg c, if_neg (fun e => c ((nI_eq ha hb).mp e))]
theorem xmax_nI {a b : Nat} (ha : a < 2 ^ 31) (hb : b < 2 ^ 31) : xmax (nI a) (nI b) = nI (max a b) := by
  unfold xmax
  rw [iflt ha hb]
  by_cases c : a < b
  · rw [if_pos c, Nat.max_eq_right (by omega)]
  · rw [if_neg c, Nat.max_eq_left (by omega)]
theorem xmin_nI {a b : Nat} (ha : a < 2 ^ 31) (hb : b < 2 ^ 31) : xmin (nI a) (nI b) = nI (min a b) := by
  unfold xmin
  rw [iflt hb ha]
  by_cases c : b < a
  · rw [if_pos c, Nat.min_eq_right (by omega)]
  · rw [if_neg c, Nat.min_eq_left (by omega)]
