/-! FIND, DIFFER -/
theorem St.fresh {S S' : xS} {T : Nat} {F : Nat → Prop} (h : St S T F) (hk : ∀ b, b < S.2.1 → S'.1 b = S.1 b) (hz : S.2.1 ≤ S'.2.1) (hn : ∀ b, S'.2.1 ≤ b → S'.1 b = none) : St S' T F := by
  obtain ⟨h0, ⟨sp, ys, h1, h2, h3, h4⟩, h5, h6⟩ := h
  have lt : ∀ {b : Nat} {o : xO}, S.1 b = some o → b < S.2.1 := fun {b o} e => by
    rcases Nat.lt_or_ge b S.2.1 with g | g
    · exact g
    · rw [h6 b g] at e; cases e
  refine ⟨h0, ⟨sp, ys, by rw [hk T (lt h1), h1], spr_kept h2 fun a ha => ?_, h3, h4⟩, fun a ha => Nat.lt_of_lt_of_le (h5 a ha) hz, hn⟩
  obtain ⟨_, _, _, _, _, _, _, _, e⟩ := spr_cell h2 a ha
  exact hk a (lt e)
theorem CX.fresh {S S' : xS} {x B R T nb : Nat} {g : Nat → Int32} {rts : Nat → Option Nat} {X : Nat → List nd} {G : Nat → Prop} (h : CX S x B R T nb g rts X G) (hk : ∀ b, b < S.2.1 → S'.1 b = S.1 b) (hz : S.2.1 ≤ S'.2.1) (hn : ∀ b, S'.2.1 ≤ b → S'.1 b = none) : CX S' x B R T nb g rts X G := by
  obtain ⟨h1, h2, h3, h4, h5, h6, h7, h8, h9⟩ := h
  have lt : ∀ {b : Nat} {o : xO}, S.1 b = some o → b < S.2.1 := fun e => h8.lt e
  refine ⟨by rw [hk x (lt h1), h1], by rw [hk B (lt h2), h2], by rw [hk R (lt h3), h3], fun t ht => ?_, h5, h6, h7, h8.fresh hk hz hn, h9⟩
  obtain ⟨hh, T'⟩ := h4 t ht
  exact ⟨hh, tr_kept T' fun a ha => hk a (h8.2.2.1 a (.inr (.inr (.inr (.inr ⟨t, ht, ha⟩)))))⟩
theorem xset_same {S : xS} {a : Nat} {o : xO} (h : S.1 a = some o) : xset S a o = S := by
  obtain ⟨H, r⟩ := S
  simp only [xset, Prod.mk.injEq, and_true]
  funext j
  simp only [va_up]
  split
  · rename_i e; subst e; exact h.symm
  · rfl
def ofind (C : Nat → List chr) (bs : Nat → Int32) (t a c : Int32) (r : Int32 ⊕ Nat) : Prop :=
  (¬ pl C t a ∧ r = .inr 2) ∨ ∃ j k, j < 16 ∧ t = nI j ∧ a = nI k ∧ k ≤ (C j).length ∧
    ((∃ p y, k ≤ p ∧ (C j)[p]? = some y ∧ bs y.1 = c ∧ (∀ q z, k ≤ q → q < p → (C j)[q]? = some z → bs z.1 ≠ c) ∧ r = .inl (nI p)) ∨ ((∀ q z, k ≤ q → (C j)[q]? = some z → bs z.1 ≠ c) ∧ r = .inl (-1)))
section FD
variable {S : xS} {x nb d n m : Nat} {C : Nat → List chr} {bs : Nat → Int32} {G : Nat → Prop}
theorem c_find0 {B R T K : Nat} {g : Nat → Int32} {r : Option Nat} {xs : List nd} (h1 : S.1 x = some (pobj B nb R T)) (h2 : S.1 B = some (barr g)) (hnb : nb ≤ 2048) (Rw : row S r xs) (hK : K ≠ x ∧ K ≠ B ∧ K ∉ ads xs) (ht : tot xs ≤ 4096) (cb : ∀ c ∈ chs xs, c.1 < nb) (hg : ∀ i, i < nb → g i &&& 255 = bs i) (hd : 4 < d) (c : Int32) (k : Nat) : ∀ n p, k ≤ p → p ≤ tot xs → tot xs - p < n → (∀ q z, k ≤ q → q < p → (chs xs)[q]? = some z → bs z.1 ≠ c) →
    ∃ rr p', l_P_find_35 d n (some x) c (nI (tot xs)) (some K) (nI p) (xset S K (rd xs r p)) = some (.inl rr, xset S K (rd xs r p')) ∧ ((∃ p y, k ≤ p ∧ (chs xs)[p]? = some y ∧ bs y.1 = c ∧ (∀ q z, k ≤ q → q < p → (chs xs)[q]? = some z → bs z.1 ≠ c) ∧ rr = nI p) ∨ ((∀ q z, k ≤ q → (chs xs)[q]? = some z → bs z.1 ≠ c) ∧ rr = -1)) := by
  intro n
  induction n with
  | zero => intro p _ _ h; omega
  | succ n ih =>
    intro p kp hp hn hq
    show ∃ rr p', b_P_find_35 d (l_P_find_35 d n) (some x) c _ (some K) (nI p) _ = _ ∧ _
    simp only [b_P_find_35]
    rw [ifle (by omega) (by omega)]
    by_cases c1 : tot xs ≤ p
    · rw [if_pos c1]
      refine ⟨-1, p, rfl, .inr ⟨fun q z h1 h2 => ?_, rfl⟩⟩
      have := (List.getElem?_eq_some_iff.mp h2).1
      rw [chs_len] at this
      exact hq q z h1 (by omega) h2
    · rw [if_neg c1]
      obtain ⟨y, hy⟩ : ∃ y, (chs xs)[p]? = some y := ⟨_, List.getElem?_eq_getElem (by rw [chs_len]; omega)⟩
      have hyb := cb y (List.mem_of_getElem? hy)
      have Rp : ∀ o, row (xset S K o) r xs := fun o => row_kept Rw fun a ha => xset_ne _ (fun e => hK.2.2 (by rw [← e]; exact ha))
      have x1 : ∀ o, (xset S K o).1 x = some (pobj B nb R T) := fun o => by rw [xset_ne _ (Ne.symm hK.1), h1]
      have x2 : ∀ o, (xset S K o).1 B = some (barr g) := fun o => by rw [xset_ne _ (Ne.symm hK.2.1), h2]
      have xo : xobj (xset S K (rd xs r p)) (some K) 3 = some (K, _) := xobj_of (xset_at S K (rd xs r p))
      have nx := d_next (Rp (rd xs r p)) (d := d) (p := p) (K := K) (by omega) hy (xset_at _ _ _) hK.2.2
      rw [xset_two] at nx
      simp only [xo, Option.bind_some, nx, gPo (x1 _), (c_byteAt (x1 _) (x2 _) hnb (d := d) (by omega)).1 y.1 hyb, hg _ hyb, nI_1]
      by_cases c2 : bs y.1 = c
      · rw [if_pos c2]
        exact ⟨nI p, p + 1, rfl, .inl ⟨p, y, kp, hy, c2, hq, rfl⟩⟩
      · rw [if_neg c2]
        refine ih (p + 1) (by omega) (by omega) (by omega) fun q z g1 g2 g3 => ?_
        by_cases e : q = p
        · subst e; rw [hy] at g3; cases g3; exact c2
        · exact hq q z g1 (by omega) g3
theorem c_find (h : CI S x C nb bs G) (hd : 120 < d) (hr : rm S (n + 100) (m + 800)) (t a c : Int32) :
    ∃ r S', f_P_find d (some x) t a c S = some (r, S') ∧ ofind C bs t a c r ∧ CI S' x C nb bs G ∧ (∀ b, G b → S'.1 b = S.1 b) ∧ rm S' n m := by
  obtain ⟨d, rfl⟩ : ∃ e, d = e + 1 := ⟨d - 1, by omega⟩
  obtain ⟨B, R, T, g, rts, X, h, hC, hg, w⟩ := h
  subst hC
  have h1 := h.1
  have h3 := h.2.2.1
  have hrs : rm S (n + 1) (m + 6) := hr.less (by omega) (by omega)
  have hskip : CI (xskip S 6) x (fun t => chs (X t)) nb bs G := ⟨B, R, T, g, rts, X, h.skip 6, rfl, hg, w⟩
  show ∃ r S', e_P_find d (some x) t a c S = some (r, S') ∧ _
  rcases c_edge h w (d := d) (by omega) hrs t a with ⟨np', e⟩ | ⟨j, k, hj, rfl, rfl, hk, hpl, e⟩
  · refine ⟨.inr 2, xskip S 6, ?_, .inl ⟨np', rfl⟩, hskip, fun _ _ => rfl, hrs.skip⟩
    simp only [e_P_find, gPo h1, e, Option.bind_some, xtry]
  obtain ⟨Rw, r1, r2, r3⟩ := CX_row h w hj
  obtain ⟨w1, w2, w3, w4⟩ := id w
  dsimp only at w1 w2 w3
  have h8 := h.2.2.2.2.2.2.2.1
  have hroom : S.2.1 + 1 ≤ S.2.2.2.1 ∧ S.2.2.1 + 4 ≤ S.2.2.2.2 := by unfold rm at hr; omega
  have hnew : xnew S 3 [.null, .int 0, .null, .int 0] = some (S.2.1, xpush S (rcell none 0 none 0) 4) := if_pos hroom
  have fp : ∀ b, b < S.2.1 → (xpush S (rcell none 0 none 0) 4).1 b = S.1 b := fun b hb => va_up_ne _ _ (by omega)
  have hk0 : (xpush S (rcell none 0 none 0) 4).1 S.2.1 = some (rcell none 0 none 0) := va_up_self _ _ _
  have ltx : ∀ b ∈ ads (X j), b < S.2.1 := fun b hb => h8.2.2.1 b (.inr (.inr (.inr (.inr ⟨j, hj, hb⟩))))
  have Rw1 : row (xpush S (rcell none 0 none 0) 4) (rts j) (X j) := row_kept Rw fun b hb => fp b (ltx b hb)
  have nK : S.2.1 ∉ ads (X j) := fun g => by have := ltx _ g; omega
  have kx : S.2.1 ≠ x := fun e => by have := h8.lt h1; omega
  have kB : S.2.1 ≠ B := fun e => by have := h8.lt h.2.1; omega
  have x1 : (xpush S (rcell none 0 none 0) 4).1 x = some (pobj B nb R T) := by rw [fp x (h8.lt h1), h1]
  have x2 : (xpush S (rcell none 0 none 0) 4).1 B = some (barr g) := by rw [fp B (h8.lt h.2.1), h.2.1]
  obtain ⟨rr, p', lp, hres⟩ := c_find0 (d := d) (bs := bs) x1 x2 w4 Rw1 ⟨kx, kB, nK⟩ r1 (w3 j hj) hg (by omega) c k xN k (Nat.le_refl _) hk (by unfold xN; omega) (fun q z h1 h2 => by omega)
  refine ⟨.inl rr, _, ?_, .inr ⟨j, k, hj, rfl, rfl, by rw [chs_len]; exact hk, ?_⟩, ⟨B, R, T, g, rts, X, h.fresh (S' := xset (xpush S (rcell none 0 none 0) 4) S.2.1 (rd (X j) (rts j) p')) (fun b hb => by rw [xset_ne _ (by omega), fp b hb]) (by show S.2.1 ≤ S.2.1 + 1; omega) (fun b hb => ?_), rfl, hg, w⟩, fun b hb => ?_, ?_⟩
  · simp only [e_P_find, gPo h1, e, Option.bind_some, xtry, c_rootOf h1 h3 (d := d) (by omega) hj, row_chars Rw (d := d) (by omega), hnew, d_init Rw1 (d := d) (p := k) (by omega) hk hk0 nK]
    exact lp
  · rcases hres with ⟨p, y, g1, g2, g3, g4, g5⟩ | ⟨g1, g2⟩
    · exact .inl ⟨p, y, g1, g2, g3, g4, by rw [g5]⟩
    · exact .inr ⟨g1, by rw [g2]⟩
  · have hb' : S.2.1 + 1 ≤ b := hb
    rw [xset_ne _ (by omega)]
    show va_up S.1 S.2.1 _ b = _
    rw [va_up_ne _ _ (by omega)]; exact h8.2.2.2 b (by omega)
  · have := h8.2.2.1 b (.inl hb)
    rw [xset_ne _ (by omega), fp b this]
  · unfold rm at hr ⊢
    show S.2.1 + 1 + n ≤ S.2.2.2.1 ∧ S.2.2.1 + 4 + m ≤ S.2.2.2.2
    omega
def odiffer (C : Nat → List chr) (bs : Nat → Int32) (t u : Int32) (r : Int32 ⊕ Nat) : Prop :=
  (¬ (tx t ∧ tx u) ∧ r = .inr 2) ∨ ∃ i j p, i < 16 ∧ j < 16 ∧ t = nI i ∧ u = nI j ∧ p ≤ (C i).length ∧ p ≤ (C j).length ∧ (∀ q y z, q < p → (C i)[q]? = some y → (C j)[q]? = some z → bs y.1 = bs z.1) ∧ (∀ y z, (C i)[p]? = some y → (C j)[p]? = some z → bs y.1 ≠ bs z.1) ∧ r = .inl (if p < (C i).length ∨ p < (C j).length then nI p else -1)
theorem d_step {r : Option Nat} {xs : List nd} {p K B R T : Nat} {g : Nat → Int32} (Rw : row S r xs) (hd : 4 < d) (hk : S.1 K = some (rd xs r (min p (tot xs)))) (nK : K ∉ ads xs) (h1 : S.1 x = some (pobj B nb R T)) (h2 : S.1 B = some (barr g)) (hK : K ≠ x ∧ K ≠ B) (hnb : nb ≤ 2048) (cb : ∀ c ∈ chs xs, c.1 < nb) (hg : ∀ i, i < nb → g i &&& 255 = bs i) : ∃ v, f_D_nextSource d (some K) S = some (v, xset S K (rd xs r (min (p + 1) (tot xs)))) ∧ ∀ o, f_P_byteAt d (some x) v (xset S K o) = some ((match (chs xs)[p]? with | some y => bs y.1 | none => 0), xset S K o) := by
  have x1 : ∀ o, (xset S K o).1 x = some (pobj B nb R T) := fun o => by rw [xset_ne _ (Ne.symm hK.1), h1]
  have x2 : ∀ o, (xset S K o).1 B = some (barr g) := fun o => by rw [xset_ne _ (Ne.symm hK.2), h2]
  by_cases c : p < tot xs
  · obtain ⟨y, hy⟩ : ∃ y, (chs xs)[p]? = some y := ⟨_, List.getElem?_eq_getElem (by rw [chs_len]; omega)⟩
    have hyb := cb y (List.mem_of_getElem? hy)
    rw [Nat.min_eq_left (by omega)] at hk
    rw [Nat.min_eq_left (by omega)]
    refine ⟨nI y.1, d_next Rw (d := d) (by omega) hy hk nK, fun o => ?_⟩
    rw [(c_byteAt (x1 o) (x2 o) hnb (d := d) (by omega)).1 y.1 hyb, hg _ hyb, hy]
  · have e1 : min p (tot xs) = tot xs := by omega
    have e2 : min (p + 1) (tot xs) = tot xs := by omega
    have e3 : (chs xs)[p]? = none := List.getElem?_eq_none (by rw [chs_len]; omega)
    rw [e1] at hk
    rw [e2, xset_same hk]
    refine ⟨-1, d_end (by omega) (Nat.le_refl _) hk, fun o => ?_⟩
    rw [(c_byteAt (x1 o) (x2 o) hnb (d := d) (by omega)).2, e3]
theorem c_differ0 {B R T K L : Nat} {g : Nat → Int32} {r r' : Option Nat} {xs ys : List nd} (h1 : S.1 x = some (pobj B nb R T)) (h2 : S.1 B = some (barr g)) (hnb : nb ≤ 2048) (Rw : row S r xs) (Qw : row S r' ys) (hK : K ≠ x ∧ K ≠ B ∧ K ∉ ads xs ∧ K ∉ ads ys) (hL : L ≠ x ∧ L ≠ B ∧ L ∉ ads xs ∧ L ∉ ads ys) (hKL : K ≠ L) (ht : tot xs ≤ 4096) (ht' : tot ys ≤ 4096) (cb : ∀ c ∈ chs xs, c.1 < nb) (cb' : ∀ c ∈ chs ys, c.1 < nb) (hg : ∀ i, i < nb → g i &&& 255 = bs i) (hz : ∀ i, i < nb → bs i ≠ 0) (hd : 4 < d) : ∀ n p, p ≤ tot xs → p ≤ tot ys → tot xs - p < n → (∀ q y z, q < p → (chs xs)[q]? = some y → (chs ys)[q]? = some z → bs y.1 = bs z.1) →
    ∃ p' a b, l_P_differ_63 d n (some x) (nI (max (tot xs) (tot ys))) (some K) (some L) (nI p) (xset (xset S K (rd xs r (min p (tot xs)))) L (rd ys r' (min p (tot ys)))) = some (.inl (if p' < (chs xs).length ∨ p' < (chs ys).length then nI p' else -1), xset (xset S K a) L b) ∧ p' ≤ (chs xs).length ∧ p' ≤ (chs ys).length ∧ (∀ q y z, q < p' → (chs xs)[q]? = some y → (chs ys)[q]? = some z → bs y.1 = bs z.1) ∧ (∀ y z, (chs xs)[p']? = some y → (chs ys)[p']? = some z → bs y.1 ≠ bs z.1) := by
  intro n
  induction n with
  | zero => intro p _ _ h; omega
  | succ n ih =>
    intro p hp hp' hn hq
    show ∃ p' a b, b_P_differ_63 d (l_P_differ_63 d n) (some x) _ (some K) (some L) (nI p) _ = _ ∧ _
    simp only [b_P_differ_63]
    rw [ifle (by omega) (by omega)]
    by_cases c1 : max (tot xs) (tot ys) ≤ p
    · rw [if_pos c1]
      refine ⟨p, rd xs r (min p (tot xs)), rd ys r' (min p (tot ys)), ?_, by rw [chs_len]; omega, by rw [chs_len]; omega, hq, fun y z e => ?_⟩
      · rw [if_neg (by rw [chs_len, chs_len]; omega)]
      · have := (List.getElem?_eq_some_iff.mp e).1
        rw [chs_len] at this; omega
    · rw [if_neg c1]
      have R1 : ∀ a b, row (xset (xset S K a) L b) r xs := fun a b => row_kept Rw fun e he => by rw [xset_ne _ (fun g => hL.2.2.1 (by rw [← g]; exact he)), xset_ne _ (fun g => hK.2.2.1 (by rw [← g]; exact he))]
      have Q1 : ∀ a b, row (xset (xset S K a) L b) r' ys := fun a b => row_kept Qw fun e he => by rw [xset_ne _ (fun g => hL.2.2.2 (by rw [← g]; exact he)), xset_ne _ (fun g => hK.2.2.2 (by rw [← g]; exact he))]
      have x1 : ∀ a b, (xset (xset S K a) L b).1 x = some (pobj B nb R T) := fun a b => by rw [xset_ne _ (Ne.symm hL.1), xset_ne _ (Ne.symm hK.1), h1]
      have x2 : ∀ a b, (xset (xset S K a) L b).1 B = some (barr g) := fun a b => by rw [xset_ne _ (Ne.symm hL.2.1), xset_ne _ (Ne.symm hK.2.1), h2]
      have kc : ∀ a b, (xset (xset S K a) L b).1 K = some a := fun a b => by rw [xset_ne _ hKL, xset_at]
      have swap : ∀ a b a', xset (xset (xset S K a) L b) K a' = xset (xset S K a') L b := fun a b a' => by
        simp only [xset, Prod.mk.injEq, and_true]
        funext j
        simp only [va_up]
        by_cases e1 : j = K
        · subst e1; simp [hKL]
        · simp [e1]
      obtain ⟨v, f1, f2⟩ := d_step (x := x) (bs := bs) (p := p) (R1 _ _) hd (kc (rd xs r (min p (tot xs))) (rd ys r' (min p (tot ys)))) hK.2.2.1 (x1 _ _) (x2 _ _) ⟨hK.1, hK.2.1⟩ hnb cb hg
      have f2' := f2 (rd xs r (min (p + 1) (tot xs)))
      rw [swap] at f1 f2'
      obtain ⟨v', f3, f4⟩ := d_step (x := x) (bs := bs) (p := p) (Q1 (rd xs r (min (p + 1) (tot xs))) (rd ys r' (min p (tot ys)))) hd (xset_at _ _ _) hL.2.2.2 (x1 _ _) (x2 _ _) ⟨hL.1, hL.2.1⟩ hnb cb' hg
      have f4' := f4 (rd ys r' (min (p + 1) (tot ys)))
      rw [xset_two] at f3 f4'
      have o1 : xobj (xset (xset S K (rd xs r (min p (tot xs)))) L (rd ys r' (min p (tot ys)))) (some K) 3 = some (K, _) := xobj_of (kc (rd xs r (min p (tot xs))) _)
      have o2 : xobj (xset (xset S K (rd xs r (min (p + 1) (tot xs)))) L (rd ys r' (min p (tot ys)))) (some L) 3 = some (L, _) := xobj_of (xset_at _ L (rd ys r' (min p (tot ys))))
      simp only [o1, Option.bind_some, f1, gPo (x1 _ _), f2', o2, f3, f4', nI_1]
      by_cases cx : p < tot xs
      · obtain ⟨y, hy⟩ : ∃ y, (chs xs)[p]? = some y := ⟨_, List.getElem?_eq_getElem (by rw [chs_len]; omega)⟩
        by_cases cy : p < tot ys
        · obtain ⟨z, hz'⟩ : ∃ z, (chs ys)[p]? = some z := ⟨_, List.getElem?_eq_getElem (by rw [chs_len]; omega)⟩
          simp only [hy, hz']
          by_cases c2 : bs y.1 = bs z.1
          · rw [if_pos c2]
            refine ih (p + 1) (by omega) (by omega) (by omega) fun q y' z' g1 g2 g3 => ?_
            by_cases e : q = p
            · subst e; rw [hy] at g2; rw [hz'] at g3; cases g2; cases g3; exact c2
            · exact hq q y' z' (by omega) g2 g3
          · rw [if_neg c2]
            refine ⟨p, rd xs r (min (p + 1) (tot xs)), rd ys r' (min (p + 1) (tot ys)), ?_, by rw [chs_len]; omega, by rw [chs_len]; omega, hq, fun y' z' g1 g2 => ?_⟩
            · rw [if_pos (.inl (by rw [chs_len]; exact cx))]
            · rw [hy] at g1; rw [hz'] at g2; cases g1; cases g2; exact c2
        · have e3 : (chs ys)[p]? = none := List.getElem?_eq_none (by rw [chs_len]; omega)
          simp only [hy, e3]
          rw [if_neg (hz _ (cb y (List.mem_of_getElem? hy)))]
          refine ⟨p, rd xs r (min (p + 1) (tot xs)), rd ys r' (min (p + 1) (tot ys)), ?_, by rw [chs_len]; omega, by rw [chs_len]; omega, hq, fun y' z' g1 g2 => ?_⟩
          · rw [if_pos (.inl (by rw [chs_len]; exact cx))]
          · rw [e3] at g2; cases g2
      · have e3 : (chs xs)[p]? = none := List.getElem?_eq_none (by rw [chs_len]; omega)
        obtain ⟨z, hz'⟩ : ∃ z, (chs ys)[p]? = some z := ⟨_, List.getElem?_eq_getElem (by rw [chs_len]; omega)⟩
        simp only [e3, hz']
        rw [if_neg (fun e => hz _ (cb' z (List.mem_of_getElem? hz')) e.symm)]
        refine ⟨p, rd xs r (min (p + 1) (tot xs)), rd ys r' (min (p + 1) (tot ys)), ?_, by rw [chs_len]; omega, by rw [chs_len]; omega, hq, fun y' z' g1 g2 => ?_⟩
        · rw [if_pos (.inr (by rw [chs_len]; omega))]
        · rw [e3] at g1; cases g1
theorem c_differ (h : CI S x C nb bs G) (hz : ∀ i, i < nb → bs i ≠ 0) (hd : 120 < d) (hr : rm S (n + 100) (m + 800)) (t u : Int32) :
    ∃ r S', f_P_differ d (some x) t u S = some (r, S') ∧ odiffer C bs t u r ∧ CI S' x C nb bs G ∧ (∀ b, G b → S'.1 b = S.1 b) ∧ rm S' n m := by
  obtain ⟨d, rfl⟩ : ∃ e, d = e + 1 := ⟨d - 1, by omega⟩
  obtain ⟨B, R, T, g, rts, X, h, hC, hg, w⟩ := h
  subst hC
  have h1 := h.1
  have h3 := h.2.2.1
  have hrs : rm S (n + 1) (m + 6) := hr.less (by omega) (by omega)
  have hskip : CI (xskip S 6) x (fun t => chs (X t)) nb bs G := ⟨B, R, T, g, rts, X, h.skip 6, rfl, hg, w⟩
  show ∃ r S', e_P_differ d (some x) t u S = some (r, S') ∧ _
  rcases tx_cases t with ⟨cb0, nc⟩ | ⟨i, hi, rfl, _, _⟩
  · refine ⟨.inr 2, xskip S 6, ?_, .inl ⟨fun g => nc g.1, rfl⟩, hskip, fun _ _ => rfl, hrs.skip⟩
    simp only [e_P_differ, gPo h1, Option.bind_some, xtry, (c_text h1 h3 (d := d) (by omega) hrs).1 cb0]
  have e1 := (c_text h1 h3 (d := d) (t := nI i) (by omega) hrs).2 i hi rfl
  rcases tx_cases u with ⟨cb0, nc⟩ | ⟨j, hj, rfl, _, _⟩
  · refine ⟨.inr 2, xskip S 6, ?_, .inl ⟨fun g => nc g.2, rfl⟩, hskip, fun _ _ => rfl, hrs.skip⟩
    simp only [e_P_differ, gPo h1, Option.bind_some, xtry, e1, (c_text h1 h3 (d := d) (by omega) hrs).1 cb0]
  have e2 := (c_text h1 h3 (d := d) (t := nI j) (by omega) hrs).2 j hj rfl
  obtain ⟨Rw, r1, r2, r3⟩ := CX_row h w hi
  obtain ⟨Qw, q1, q2, q3⟩ := CX_row h w hj
  obtain ⟨w1, w2, w3, w4⟩ := id w
  dsimp only at w1 w2 w3
  have h8 := h.2.2.2.2.2.2.2.1
  have lt8 : ∀ {b : Nat} {o : xO}, S.1 b = some o → b < S.2.1 := fun e => h8.lt e
  have hroom : S.2.1 + 1 ≤ S.2.2.2.1 ∧ S.2.2.1 + 4 ≤ S.2.2.2.2 := by unfold rm at hr; omega
  have hroom2 : S.2.1 + 1 + 1 ≤ S.2.2.2.1 ∧ S.2.2.1 + 4 + 4 ≤ S.2.2.2.2 := by unfold rm at hr; omega
  have hnew : xnew S 3 [.null, .int 0, .null, .int 0] = some (S.2.1, xpush S (rcell none 0 none 0) 4) := if_pos hroom
  have fp : ∀ b, b < S.2.1 → (xpush S (rcell none 0 none 0) 4).1 b = S.1 b := fun b hb => va_up_ne _ _ (by omega)
  have hk0 : (xpush S (rcell none 0 none 0) 4).1 S.2.1 = some (rcell none 0 none 0) := va_up_self _ _ _
  have ltx : ∀ v, v < 16 → ∀ b ∈ ads (X v), b < S.2.1 := fun v hv b hb => h8.2.2.1 b (.inr (.inr (.inr (.inr ⟨v, hv, hb⟩))))
  have x1 : (xpush S (rcell none 0 none 0) 4).1 x = some (pobj B nb R T) := by rw [fp x (lt8 h1), h1]
  have R1 : (xpush S (rcell none 0 none 0) 4).1 R = some (rarr rts) := by rw [fp R (lt8 h3), h3]
  have Rw1 : row (xpush S (rcell none 0 none 0) 4) (rts i) (X i) := row_kept Rw fun b hb => fp b (ltx i hi b hb)
  have nKi : S.2.1 ∉ ads (X i) := fun g => by have := ltx i hi _ g; omega
  have nKj : S.2.1 ∉ ads (X j) := fun g => by have := ltx j hj _ g; omega
  have di1 : f_D_init d (some S.2.1) (rts i) 0 (xpush S (rcell none 0 none 0) 4) = some ((), xset (xpush S (rcell none 0 none 0) 4) S.2.1 (rd (X i) (rts i) 0)) := d_init Rw1 (d := d) (p := 0) (by omega) (by omega) hk0 nKi
  have f2p : ∀ b, b < S.2.1 → (xset (xpush S (rcell none 0 none 0) 4) S.2.1 (rd (X i) (rts i) 0)).1 b = S.1 b := fun b hb => by rw [xset_ne _ (by omega), fp b hb]
  have hnew2 : xnew (xset (xpush S (rcell none 0 none 0) 4) S.2.1 (rd (X i) (rts i) 0)) 3 [.null, .int 0, .null, .int 0] = some (S.2.1 + 1, xpush (xset (xpush S (rcell none 0 none 0) 4) S.2.1 (rd (X i) (rts i) 0)) (rcell none 0 none 0) 4) := if_pos hroom2
  have f3p : ∀ b, b < S.2.1 + 1 → (xpush (xset (xpush S (rcell none 0 none 0) 4) S.2.1 (rd (X i) (rts i) 0)) (rcell none 0 none 0) 4).1 b = (xset (xpush S (rcell none 0 none 0) 4) S.2.1 (rd (X i) (rts i) 0)).1 b := fun b hb => va_up_ne _ _ (by show b ≠ S.2.1 + 1; omega)
  have f3q : ∀ b, b < S.2.1 → (xpush (xset (xpush S (rcell none 0 none 0) 4) S.2.1 (rd (X i) (rts i) 0)) (rcell none 0 none 0) 4).1 b = S.1 b := fun b hb => by rw [f3p b (by omega), f2p b hb]
  have hk2 : (xpush (xset (xpush S (rcell none 0 none 0) 4) S.2.1 (rd (X i) (rts i) 0)) (rcell none 0 none 0) 4).1 (S.2.1 + 1) = some (rcell none 0 none 0) := va_up_self _ _ _
  have hk3 : (xpush (xset (xpush S (rcell none 0 none 0) 4) S.2.1 (rd (X i) (rts i) 0)) (rcell none 0 none 0) 4).1 S.2.1 = some (rd (X i) (rts i) 0) := by rw [f3p _ (by omega), xset_at]
  have hn3 : ∀ b, S.2.1 + 2 ≤ b → (xpush (xset (xpush S (rcell none 0 none 0) 4) S.2.1 (rd (X i) (rts i) 0)) (rcell none 0 none 0) 4).1 b = none := fun b hb => by
    have e : (xpush (xset (xpush S (rcell none 0 none 0) 4) S.2.1 (rd (X i) (rts i) 0)) (rcell none 0 none 0) 4).1 b = (xset (xpush S (rcell none 0 none 0) 4) S.2.1 (rd (X i) (rts i) 0)).1 b := va_up_ne _ _ (by show b ≠ S.2.1 + 1; omega)
    rw [e, xset_ne _ (by omega)]
    show va_up S.1 S.2.1 _ b = _
    rw [va_up_ne _ _ (by omega)]; exact h8.2.2.2 b (by omega)
  have sz3 : (xpush (xset (xpush S (rcell none 0 none 0) 4) S.2.1 (rd (X i) (rts i) 0)) (rcell none 0 none 0) 4).2 = (S.2.1 + 1 + 1, S.2.2.1 + 4 + 4, S.2.2.2) := rfl
  generalize xpush (xset (xpush S (rcell none 0 none 0) 4) S.2.1 (rd (X i) (rts i) 0)) (rcell none 0 none 0) 4 = S3 at hnew2 f3q hk2 hk3 hn3 sz3
  have x2 : (xset (xpush S (rcell none 0 none 0) 4) S.2.1 (rd (X i) (rts i) 0)).1 x = some (pobj B nb R T) := by rw [f2p x (lt8 h1), h1]
  have x3 : S3.1 x = some (pobj B nb R T) := by rw [f3q x (lt8 h1), h1]
  have R3 : S3.1 R = some (rarr rts) := by rw [f3q R (lt8 h3), h3]
  have B3 : S3.1 B = some (barr g) := by rw [f3q B (lt8 h.2.1), h.2.1]
  have Rw3 : row S3 (rts i) (X i) := row_kept Rw fun b hb => f3q b (ltx i hi b hb)
  have Qw3 : row S3 (rts j) (X j) := row_kept Qw fun b hb => f3q b (ltx j hj b hb)
  have nLi : S.2.1 + 1 ∉ ads (X i) := fun g => by have := ltx i hi _ g; omega
  have nLj : S.2.1 + 1 ∉ ads (X j) := fun g => by have := ltx j hj _ g; omega
  have di2 : f_D_init d (some (S.2.1 + 1)) (rts j) 0 S3 = some ((), xset S3 (S.2.1 + 1) (rd (X j) (rts j) 0)) := d_init Qw3 (d := d) (p := 0) (by omega) (by omega) hk2 nLj
  have lx := lt8 h1
  have lB := lt8 h.2.1
  obtain ⟨p', a, b, lp, g1, g2, g3, g4⟩ := c_differ0 (d := d) (bs := bs) (K := S.2.1) (L := S.2.1 + 1) x3 B3 w4 Rw3 Qw3 ⟨by omega, by omega, nKi, nKj⟩ ⟨by omega, by omega, nLi, nLj⟩ (by omega) r1 q1 (w3 i hi) (w3 j hj) hg hz (by omega) xN 0 (by omega) (by omega) (by unfold xN; omega) (fun q y z h => by omega)
  rw [Nat.min_eq_left (Nat.zero_le _), Nat.min_eq_left (Nat.zero_le _), xset_same hk3] at lp
  have lp' : l_P_differ_63 d xN (some x) (nI (max (tot (X i)) (tot (X j)))) (some S.2.1) (some (S.2.1 + 1)) 0 (xset S3 (S.2.1 + 1) (rd (X j) (rts j) 0)) = _ := lp
  refine ⟨_, _, ?_, .inr ⟨i, j, p', hi, hj, rfl, rfl, g1, g2, g3, g4, rfl⟩, ⟨B, R, T, g, rts, X, h.fresh (S' := xset (xset S3 S.2.1 a) (S.2.1 + 1) b) (fun b hb => by rw [xset_ne _ (by omega), xset_ne _ (by omega), f3q b hb]) (by rw [xset_2, xset_2, sz3]; show S.2.1 ≤ S.2.1 + 1 + 1; omega) (fun b hb => ?_), rfl, hg, w⟩, fun b hb => ?_, ?_⟩
  · simp only [e_P_differ, gPo h1, Option.bind_some, xtry, e1, e2, c_rootOf h1 h3 (d := d) (by omega) hi, c_rootOf h1 h3 (d := d) (by omega) hj, row_chars Rw (d := d) (by omega), row_chars Qw (d := d) (by omega), hnew, gPo x1, c_rootOf x1 R1 (d := d) (by omega) hi, di1, hnew2, gPo x3, c_rootOf x3 R3 (d := d) (by omega) hj, di2, xmax_nI (show tot (X i) < 2 ^ 31 by omega) (show tot (X j) < 2 ^ 31 by omega), lp']
  · rw [xset_2, xset_2, sz3] at hb
    have hb' : S.2.1 + 1 + 1 ≤ b := hb
    rw [xset_ne _ (by omega), xset_ne _ (by omega)]; exact hn3 b (by omega)
  · have := h8.2.2.1 b (.inl hb)
    rw [xset_ne _ (by omega), xset_ne _ (by omega), f3q b this]
  · unfold rm at hr ⊢
    rw [xset_2, xset_2, sz3]
    show S.2.1 + 1 + 1 + n ≤ S.2.2.2.1 ∧ S.2.2.1 + 4 + 4 + m ≤ S.2.2.2.2
    omega
end FD
