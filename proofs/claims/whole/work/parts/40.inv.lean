/-! THE OBJECT: its buffer, its sixteen rows, its store -/
def sm (f : Nat → Nat) : Nat → Nat
  | 0 => 0
  | n + 1 => sm f n + f n
theorem sm_le {f : Nat → Nat} : ∀ {n t : Nat}, t < n → f t ≤ sm f n := by
  intro n
  induction n with
  | zero => intro t h; omega
  | succ n ih =>
    intro t h
    simp only [sm]
    by_cases c : t = n
    · subst c; omega
    · have := ih (t := t) (by omega); omega
theorem sm_congr {f g : Nat → Nat} : ∀ {n : Nat}, (∀ t, t < n → f t = g t) → sm f n = sm g n := by
  intro n
  induction n with
  | zero => intro _; rfl
  | succ n ih =>
    intro h
    simp only [sm]
    rw [ih fun t ht => h t (by omega), h n (by omega)]
theorem sm_up {f g : Nat → Nat} {j : Nat} : ∀ {n : Nat}, (∀ t, t < n → t ≠ j → f t = g t) → j < n → sm f n + g j = sm g n + f j := by
  intro n
  induction n with
  | zero => intro _ h; omega
  | succ n ih =>
    intro h hj
    simp only [sm]
    by_cases c : j = n
    · subst c
      rw [sm_congr (f := f) (g := g) fun t ht => h t (by omega) (by omega)]
      omega
    · have := ih (fun t ht => h t (by omega)) (by omega)
      rw [h n (by omega) (by omega)]
      omega
theorem sm_two {f g : Nat → Nat} {i j n : Nat} (h : ∀ t, t < n → t ≠ i → t ≠ j → f t = g t) (hi : i < n) (hj : j < n) (hij : i ≠ j) : sm f n + g i + g j = sm g n + f i + f j := by
  have h1 := sm_up (f := f) (g := va_up f i (g i)) (j := i) (n := n) (fun t _ ht => (va_up_ne _ _ ht).symm) hi
  have h2 := sm_up (f := va_up f i (g i)) (g := g) (j := j) (n := n) (fun t ht htj => by
    by_cases c : t = i
    · subst c; exact va_up_self _ _ _
    · rw [va_up_ne _ _ c]; exact h t ht c htj) hj
  rw [va_up_self] at h1
  rw [va_up_ne _ _ (Ne.symm hij)] at h2
  omega
def pobj (B : Nat) (nb : Nat) (R T : Nat) : xO := .inr (0, [va_rf (some B), .int (nI nb), va_rf (some R), va_rf (some T)])
def barr (g : Nat → Int32) : xO := .inl (0, (2048, .inl g))
def rarr (rts : Nat → Option Nat) : xO := .inl (2, (16, .inr (.inr (.inr (.inr rts)))))
def CF (x B R : Nat) (X : Nat → List nd) (G : Nat → Prop) : Nat → Prop := fun b => G b ∨ b = x ∨ b = B ∨ b = R ∨ ∃ t, t < 16 ∧ b ∈ ads (X t)
def CX (S : xS) (x B R T nb : Nat) (g : Nat → Int32) (rts : Nat → Option Nat) (X : Nat → List nd) (G : Nat → Prop) : Prop :=
  S.1 x = some (pobj B nb R T) ∧ S.1 B = some (barr g) ∧ S.1 R = some (rarr rts) ∧ (∀ t, t < 16 → ∃ h, tr S.1 h (rts t) (X t)) ∧ (∀ t, t < 16 → nrm none (X t)) ∧ (∀ t, t < 16 → (ads (X t)).Nodup ∧ ∀ a ∈ ads (X t), ¬ G a) ∧ (∀ t u, t < 16 → u < 16 → t ≠ u → ∀ a ∈ ads (X t), a ∉ ads (X u)) ∧ St S T (CF x B R X G) ∧ (¬ G x ∧ ¬ G B ∧ ¬ G R)
/-- what holds of the texts -/
def WF (C : Nat → List chr) (nb : Nat) : Prop := sm (fun t => (C t).length) 16 ≤ 4096 ∧ sm (fun t => np none (C t)) 16 ≤ 1024 ∧ (∀ t, t < 16 → ∀ c ∈ C t, c.1 < nb) ∧ nb ≤ 2048
theorem CX_row {S : xS} {x B R T nb : Nat} {g : Nat → Int32} {rts : Nat → Option Nat} {X : Nat → List nd} {G : Nat → Prop} (h : CX S x B R T nb g rts X G) (w : WF (fun t => chs (X t)) nb) {t : Nat} (ht : t < 16) : row S (rts t) (X t) ∧ tot (X t) ≤ 4096 ∧ (X t).length ≤ 1024 ∧ ∀ c ∈ chs (X t), c.1 < 4096 := by
  obtain ⟨_, _, _, h4, h5, _⟩ := h
  obtain ⟨w1, w2, w3, w4⟩ := w
  have e1 := sm_le (f := fun t => (chs (X t)).length) ht
  have e2 := sm_le (f := fun t => np none (chs (X t))) ht
  simp only [chs_len] at e1 w1
  dsimp only at e2 w2 w3
  rw [nrm_np (h5 t ht)] at e2
  refine ⟨⟨h4 t ht, h5 t ht, by omega, by omega⟩, by omega, by omega, fun c hc => ?_⟩
  have := w3 t ht c hc
  omega
theorem gP1 {S : xS} {x B R T nb : Nat} (h : S.1 x = some (pobj B nb R T)) : xgI S (some x) 0 1 = some (nI nb) := by simp [xgI, xobj, h, pobj, va_rf]
theorem gP0 {S : xS} {x B R T nb : Nat} (h : S.1 x = some (pobj B nb R T)) : xgR S (some x) 0 0 = some (some B) := by simp [xgR, xobj, h, pobj, va_rf]
theorem gP2 {S : xS} {x B R T nb : Nat} (h : S.1 x = some (pobj B nb R T)) : xgR S (some x) 0 2 = some (some R) := by simp [xgR, xobj, h, pobj, va_rf]
theorem gP3 {S : xS} {x B R T nb : Nat} (h : S.1 x = some (pobj B nb R T)) : xgR S (some x) 0 3 = some (some T) := by simp [xgR, xobj, h, pobj, va_rf]
theorem gPo {S : xS} {x B R T nb : Nat} (h : S.1 x = some (pobj B nb R T)) : xobj S (some x) 0 = some (x, [va_rf (some B), .int (nI nb), va_rf (some R), va_rf (some T)]) := xobj_of h
theorem lR {S : xS} {R : Nat} {rts : Nat → Option Nat} (h : S.1 R = some (rarr rts)) : xlen S (some R) 2 = some (nI 16) := by simp [xlen, xarr, h, rarr]; rfl
theorem ldR {S : xS} {R : Nat} {rts : Nat → Option Nat} (h : S.1 R = some (rarr rts)) {j : Nat} (hj : j < 16) : xldR S (some R) 2 (nI j) = some (rts j) := by
  simp only [xldR, xarr_of h, Option.bind_some]
  rw [if_pos (nI_in hj (by omega)), nI_clamp (by omega)]
theorem stR {S : xS} {R : Nat} {rts : Nat → Option Nat} (h : S.1 R = some (rarr rts)) {j : Nat} (hj : j < 16) {v : Option Nat} (hv : v = none ∨ (xobj S v 2).isSome = true) : xstR S (some R) 2 2 (nI j) v = some (xset S R (rarr (va_up rts j v))) := by
  simp only [xstR, xarr_of h, Option.bind_some]
  rw [if_pos ⟨nI_in hj (by omega), hv⟩, nI_clamp (by omega)]
  rfl
def bad (t : Int32) : Prop := t < 0 ∨ nI 16 ≤ t
theorem c_isText {S : xS} {x B R T nb d : Nat} {rts : Nat → Option Nat} (h1 : S.1 x = some (pobj B nb R T)) (h3 : S.1 R = some (rarr rts)) (hd : 0 < d) {t : Int32} : (bad t → f_P_isText d (some x) t S = some (0, S)) ∧ ∀ j, j < 16 → t = nI j → f_P_isText d (some x) t S = some (1, S) := by
  obtain ⟨d, rfl⟩ : ∃ e, d = e + 1 := ⟨d - 1, by omega⟩
  constructor
  · rintro (c | c)
    · show e_P_isText d (some x) t S = _
      simp only [e_P_isText, if_pos c]; rfl
    · show e_P_isText d (some x) t S = _
      simp only [e_P_isText, gP2 h1, Option.bind_some, lR h3, if_pos c]
      by_cases c' : t < 0
      · rw [if_pos c']; rfl
      · rw [if_neg c']; rfl
  · rintro j hj rfl
    show e_P_isText d (some x) (nI j) S = _
    simp only [e_P_isText, gP2 h1, Option.bind_some, lR h3, if_neg (nI_pos (show j < 2 ^ 31 by omega)), if_neg (nI_ge (show j < 16 by omega) (by omega))]
    rfl
theorem c_rootOf {S : xS} {x B R T nb d j : Nat} {rts : Nat → Option Nat} (h1 : S.1 x = some (pobj B nb R T)) (h3 : S.1 R = some (rarr rts)) (hd : 0 < d) (hj : j < 16) : f_P_rootOf d (some x) (nI j) S = some (rts j, S) := by
  obtain ⟨d, rfl⟩ : ∃ e, d = e + 1 := ⟨d - 1, by omega⟩
  show e_P_rootOf d (some x) (nI j) S = _
  simp only [e_P_rootOf, b_P_rootOf_23, gP2 h1, Option.bind_some, lR h3, if_neg (nI_pos (show j < 2 ^ 31 by omega)), if_neg (nI_ge (show j < 16 by omega) (by omega)), ldR h3 hj]
theorem thr {α : Type} {S : xS} {d e n m : Nat} (hd : 7 < d) (hr : rm S (n + 1) (m + 6)) : (xthrow d e S : Option ((α ⊕ Nat) × xS)) = some (.inr e, xskip S 6) := by
  unfold xthrow
  rw [if_pos ⟨hd, by unfold rm at hr; omega, by unfold rm at hr; omega⟩]
theorem c_text {S : xS} {x B R T nb d n m : Nat} {rts : Nat → Option Nat} (h1 : S.1 x = some (pobj B nb R T)) (h3 : S.1 R = some (rarr rts)) (hd : 8 < d) (hr : rm S (n + 1) (m + 6)) {t : Int32} : (bad t → f_P_demandText d (some x) t S = some (.inr 2, xskip S 6)) ∧ ∀ j, j < 16 → t = nI j → f_P_demandText d (some x) t S = some (.inl (), S) := by
  obtain ⟨d, rfl⟩ : ∃ e, d = e + 1 := ⟨d - 1, by omega⟩
  constructor
  · intro c
    show e_P_demandText d (some x) t S = _
    simp only [e_P_demandText, gPo h1, (c_isText h1 h3 (d := d) (by omega)).1 c, Option.bind_some]
    exact thr (by omega) hr
  · intro j hj e
    show e_P_demandText d (some x) t S = _
    simp only [e_P_demandText, gPo h1, (c_isText h1 h3 (d := d) (by omega)).2 j hj e, Option.bind_some]
    rfl
theorem nI_inj {a b : Nat} (ha : a < 2 ^ 31) (hb : b < 2 ^ 31) (h : nI a = nI b) : a = b := (nI_eq ha hb).mp h
theorem pk_sub31 {a b : Nat} (ha : a < 2 ^ 31) (hb : b < 2 ^ 31) : (nI a - nI b).toInt = (a : Int) - b := by
  rw [Int32.toInt_sub, nI_toInt ha, nI_toInt hb, Int.bmod_def]
  omega
/-- a place of a text; a range of a text -/
def pl (C : Nat → List chr) (t a : Int32) : Prop := 0 ≤ t.toInt ∧ t.toInt < 16 ∧ 0 ≤ a.toInt ∧ a.toInt ≤ ((C t.toInt.toNat).length : Int)
theorem tx_cases (t : Int32) : (bad t ∧ ¬ (0 ≤ t.toInt ∧ t.toInt < 16)) ∨ ∃ j, j < 16 ∧ t = nI j ∧ t.toInt = j ∧ t.toInt.toNat = j := by
  rcases pk_ix t (n := 16) (by omega) with c | c | ⟨j, hj, rfl⟩
  · refine .inl ⟨.inl c, fun g => ?_⟩
    rw [Int32.lt_iff_toInt_lt] at c
    have e : (0 : Int32).toInt = 0 := rfl
    omega
  · refine .inl ⟨.inr c, fun g => ?_⟩
    rw [Int32.le_iff_toInt_le, nI_toInt (by omega)] at c
    omega
  · exact .inr ⟨j, hj, rfl, nI_toInt (by omega), by rw [nI_toInt (by omega)]; rfl⟩
theorem c_edge {S : xS} {x B R T nb d n m : Nat} {g : Nat → Int32} {rts : Nat → Option Nat} {X : Nat → List nd} {G : Nat → Prop} (h : CX S x B R T nb g rts X G) (w : WF (fun t => chs (X t)) nb) (hd : 9 < d) (hr : rm S (n + 1) (m + 6)) (t a : Int32) : (¬ pl (fun t => chs (X t)) t a ∧ f_P_demandEdge d (some x) t a S = some (.inr 2, xskip S 6)) ∨ ∃ j k, j < 16 ∧ t = nI j ∧ a = nI k ∧ k ≤ tot (X j) ∧ pl (fun t => chs (X t)) t a ∧ f_P_demandEdge d (some x) t a S = some (.inl (), S) := by
  obtain ⟨d, rfl⟩ : ∃ e, d = e + 1 := ⟨d - 1, by omega⟩
  have h1 := h.1
  have h3 := h.2.2.1
  have ha0 : (0 : Int32).toInt = 0 := rfl
  rcases tx_cases t with ⟨c, nc⟩ | ⟨j, hj, e, e1, e2⟩
  · refine .inl ⟨fun g => nc ⟨g.1, g.2.1⟩, ?_⟩
    show e_P_demandEdge d (some x) t a S = _
    simp only [e_P_demandEdge, gPo h1, (c_text h1 h3 (d := d) (by omega) hr).1 c, Option.bind_some, xtry]
  · obtain ⟨R', r1, r2, _⟩ := CX_row h w hj
    by_cases c : a < 0
    · refine .inl ⟨fun g => by have := g.2.2.1; rw [Int32.lt_iff_toInt_lt] at c; omega, ?_⟩
      show e_P_demandEdge d (some x) t a S = _
      simp only [e_P_demandEdge, gPo h1, (c_text h1 h3 (d := d) (by omega) hr).2 j hj e, Option.bind_some, xtry, if_pos c, b_P_demandEdge_21]
      exact thr (by omega) hr
    · obtain ⟨k, hk, ek⟩ := nI_of c
      have epl : pl (fun t => chs (X t)) t a ↔ k ≤ tot (X j) := by
        unfold pl
        rw [e2, ek, nI_toInt hk, chs_len]
        constructor
        · intro g; omega
        · intro g; exact ⟨by omega, by omega, by omega, by omega⟩
      have hval : f_P_demandEdge (d + 1) (some x) t a S = if k ≤ tot (X j) then some (.inl (), S) else some (.inr 2, xskip S 6) := by
        show e_P_demandEdge d (some x) t a S = _
        simp only [e_P_demandEdge, gPo h1, (c_text h1 h3 (d := d) (by omega) hr).2 j hj e, Option.bind_some, xtry, if_neg c, b_P_demandEdge_21]
        rw [e]
        simp only [c_rootOf h1 h3 (d := d) (by omega) hj, row_chars R' (d := d) (by omega), Option.bind_some, ek]
        rw [ifle hk (by omega), thr (by omega) hr]
      by_cases c2 : k ≤ tot (X j)
      · exact .inr ⟨j, k, hj, e, ek, c2, epl.mpr c2, by rw [hval, if_pos c2]⟩
      · exact .inl ⟨fun g => c2 (epl.mp g), by rw [hval, if_neg c2]⟩
def rg (C : Nat → List chr) (t a n : Int32) : Prop := pl C t a ∧ 0 ≤ n.toInt ∧ a.toInt + n.toInt ≤ ((C t.toInt.toNat).length : Int)
theorem c_range {S : xS} {x B R T nb d n m : Nat} {g : Nat → Int32} {rts : Nat → Option Nat} {X : Nat → List nd} {G : Nat → Prop} (h : CX S x B R T nb g rts X G) (w : WF (fun t => chs (X t)) nb) (hd : 9 < d) (hr : rm S (n + 1) (m + 6)) (t a q : Int32) : (¬ rg (fun t => chs (X t)) t a q ∧ f_P_demandRange d (some x) t a q S = some (.inr 2, xskip S 6)) ∨ ∃ j k l, j < 16 ∧ t = nI j ∧ a = nI k ∧ q = nI l ∧ k + l ≤ tot (X j) ∧ rg (fun t => chs (X t)) t a q ∧ f_P_demandRange d (some x) t a q S = some (.inl (), S) := by
  obtain ⟨d, rfl⟩ : ∃ e, d = e + 1 := ⟨d - 1, by omega⟩
  have h1 := h.1
  have h3 := h.2.2.1
  have ha0 : (0 : Int32).toInt = 0 := rfl
  rcases tx_cases t with ⟨c, nc⟩ | ⟨j, hj, e, e1, e2⟩
  · refine .inl ⟨fun g => nc ⟨g.1.1, g.1.2.1⟩, ?_⟩
    show e_P_demandRange d (some x) t a q S = _
    simp only [e_P_demandRange, gPo h1, (c_text h1 h3 (d := d) (by omega) hr).1 c, Option.bind_some, xtry]
  · obtain ⟨R', r1, r2, _⟩ := CX_row h w hj
    by_cases c0 : q < 0
    · refine .inl ⟨fun g => by have := g.2.1; rw [Int32.lt_iff_toInt_lt] at c0; omega, ?_⟩
      show e_P_demandRange d (some x) t a q S = _
      simp only [e_P_demandRange, gPo h1, (c_text h1 h3 (d := d) (by omega) hr).2 j hj e, Option.bind_some, xtry, if_pos c0, b_P_demandRange_27]
      exact thr (by omega) hr
    by_cases c : a < 0
    · refine .inl ⟨fun g => by have := g.1.2.2.1; rw [Int32.lt_iff_toInt_lt] at c; omega, ?_⟩
      show e_P_demandRange d (some x) t a q S = _
      simp only [e_P_demandRange, gPo h1, (c_text h1 h3 (d := d) (by omega) hr).2 j hj e, Option.bind_some, xtry, if_neg c0, if_pos c, b_P_demandRange_27]
      exact thr (by omega) hr
    obtain ⟨k, hk, ek⟩ := nI_of c
    obtain ⟨l, hl, el⟩ := nI_of c0
    have epl : rg (fun t => chs (X t)) t a q ↔ k + l ≤ tot (X j) := by
      unfold rg pl
      rw [e2, ek, el, nI_toInt hk, nI_toInt hl, chs_len]
      constructor
      · intro g; omega
      · intro g; exact ⟨⟨by omega, by omega, by omega, by omega⟩, by omega, by omega⟩
    have hval : f_P_demandRange (d + 1) (some x) t a q S = if k + l ≤ tot (X j) then some (.inl (), S) else some (.inr 2, xskip S 6) := by
      show e_P_demandRange d (some x) t a q S = _
      simp only [e_P_demandRange, gPo h1, (c_text h1 h3 (d := d) (by omega) hr).2 j hj e, Option.bind_some, xtry, if_neg c0, if_neg c, b_P_demandRange_27]
      rw [e]
      simp only [c_rootOf h1 h3 (d := d) (by omega) hj, row_chars R' (d := d) (by omega), Option.bind_some, ek, el]
      rw [thr (by omega) hr]
      have es := pk_sub31 (a := tot (X j)) (b := l) (by omega) hl
      by_cases c2 : k + l ≤ tot (X j)
      · rw [if_pos c2, if_pos (by rw [Int32.le_iff_toInt_le, es, nI_toInt hk]; omega)]
      · rw [if_neg c2, if_neg (by rw [Int32.le_iff_toInt_le, es, nI_toInt hk]; omega)]
    by_cases c2 : k + l ≤ tot (X j)
    · exact .inr ⟨j, k, l, hj, e, ek, el, c2, epl.mpr c2, by rw [hval, if_pos c2]⟩
    · exact .inl ⟨fun g => c2 (epl.mp g), by rw [hval, if_neg c2]⟩
theorem c_charsAll0 {S : xS} {R d : Nat} {rts : Nat → Option Nat} {X : Nat → List nd} (h3 : S.1 R = some (rarr rts)) (h4 : ∀ t, t < 16 → ∃ h, tr S.1 h (rts t) (X t)) (hd : 0 < d) : ∀ n k, k ≤ 16 → 16 - k < n → l_P_charactersInAll_13 d n (nI (sm (fun t => tot (X t)) k)) (some R) (nI 16) (nI k) S = some (nI (sm (fun t => tot (X t)) 16), S) := by
  intro n
  induction n with
  | zero => intro k _ h; omega
  | succ n ih =>
    intro k hk hn
    show b_P_charactersInAll_13 d (l_P_charactersInAll_13 d n) _ _ _ _ S = _
    simp only [b_P_charactersInAll_13]
    rw [ifle (by omega) (by omega)]
    by_cases c : 16 ≤ k
    · rw [if_pos c]
      have : k = 16 := by omega
      rw [this]
    · rw [if_neg c]
      obtain ⟨h, T⟩ := h4 k (by omega)
      simp only [ldR h3 (show k < 16 by omega), r_chars T hd, Option.bind_some, nI_add, nI_1]
      exact ih (k + 1) (by omega) (by omega)
theorem c_piecesAll0 {S : xS} {R d : Nat} {rts : Nat → Option Nat} {X : Nat → List nd} (h3 : S.1 R = some (rarr rts)) (h4 : ∀ t, t < 16 → ∃ h, tr S.1 h (rts t) (X t)) (hd : 0 < d) : ∀ n k, k ≤ 16 → 16 - k < n → l_P_piecesInAll_13 d n (nI (sm (fun t => (X t).length) k)) (some R) (nI 16) (nI k) S = some (nI (sm (fun t => (X t).length) 16), S) := by
  intro n
  induction n with
  | zero => intro k _ h; omega
  | succ n ih =>
    intro k hk hn
    show b_P_piecesInAll_13 d (l_P_piecesInAll_13 d n) _ _ _ _ S = _
    simp only [b_P_piecesInAll_13]
    rw [ifle (by omega) (by omega)]
    by_cases c : 16 ≤ k
    · rw [if_pos c]
      have : k = 16 := by omega
      rw [this]
    · rw [if_neg c]
      obtain ⟨h, T⟩ := h4 k (by omega)
      simp only [ldR h3 (show k < 16 by omega), r_pieces T hd, Option.bind_some, nI_add, nI_1]
      exact ih (k + 1) (by omega) (by omega)
theorem c_charsAll {S : xS} {x B R T nb d : Nat} {g : Nat → Int32} {rts : Nat → Option Nat} {X : Nat → List nd} {G : Nat → Prop} (h : CX S x B R T nb g rts X G) (hd : 1 < d) : f_P_charactersInAll d (some x) S = some (nI (sm (fun t => (chs (X t)).length) 16), S) := by
  obtain ⟨d, rfl⟩ : ∃ e, d = e + 1 := ⟨d - 1, by omega⟩
  show e_P_charactersInAll d (some x) S = _
  simp only [e_P_charactersInAll, gP2 h.1, lR h.2.2.1, Option.bind_some, chs_len]
  exact c_charsAll0 (X := X) (d := d) h.2.2.1 h.2.2.2.1 (by omega) xN 0 (by omega) (by unfold xN; omega)
theorem c_piecesAll {S : xS} {x B R T nb d : Nat} {g : Nat → Int32} {rts : Nat → Option Nat} {X : Nat → List nd} {G : Nat → Prop} (h : CX S x B R T nb g rts X G) (hd : 1 < d) : f_P_piecesInAll d (some x) S = some (nI (sm (fun t => np none (chs (X t))) 16), S) := by
  obtain ⟨d, rfl⟩ : ∃ e, d = e + 1 := ⟨d - 1, by omega⟩
  show e_P_piecesInAll d (some x) S = _
  simp only [e_P_piecesInAll, gP2 h.1, lR h.2.2.1, Option.bind_some]
  rw [sm_congr (f := fun t => np none (chs (X t))) (g := fun t => (X t).length) fun t ht => nrm_np (h.2.2.2.2.1 t ht)]
  exact c_piecesAll0 (X := X) (d := d) h.2.2.1 h.2.2.2.1 (by omega) xN 0 (by omega) (by unfold xN; omega)
theorem c_room {S : xS} {x B R T nb d n m : Nat} {g : Nat → Int32} {rts : Nat → Option Nat} {X : Nat → List nd} {G : Nat → Prop} (h : CX S x B R T nb g rts X G) (w : WF (fun t => chs (X t)) nb) (hd : 9 < d) (hr : rm S (n + 1) (m + 6)) {k : Nat} (hk : k ≤ 10000) {p : Int32} (hp : p.toInt ≤ 100000 ∧ -100000 ≤ p.toInt) : f_P_demandRoom d (some x) (nI k) p S = if sm (fun t => (chs (X t)).length) 16 + k ≤ 4096 ∧ (sm (fun t => np none (chs (X t))) 16 : Int) + p.toInt ≤ 1024 then some (.inl (), S) else some (.inr 1, xskip S 6) := by
  obtain ⟨d, rfl⟩ : ∃ e, d = e + 1 := ⟨d - 1, by omega⟩
  obtain ⟨w1, w2, _, _⟩ := w
  dsimp only at w1 w2
  show e_P_demandRoom d (some x) (nI k) p S = _
  simp only [e_P_demandRoom, gPo h.1, c_charsAll h (d := d) (by omega), c_piecesAll h (d := d) (by omega), Option.bind_some]
  rw [thr (by omega) hr]
  have e1 : ((4096 : Int32) - nI k).toInt = 4096 - (k : Int) := pk_sub31 (a := 4096) (by omega) (by omega)
  have e2 : ((1024 : Int32) - p).toInt = 1024 - p.toInt := by
    rw [Int32.toInt_sub]
    have : (1024 : Int32).toInt = 1024 := rfl
    rw [this, Int.bmod_def]; omega
  by_cases c1 : sm (fun t => (chs (X t)).length) 16 + k ≤ 4096
  · rw [if_pos (show nI (sm (fun t => (chs (X t)).length) 16) ≤ 4096 - nI k by rw [Int32.le_iff_toInt_le, e1, nI_toInt (by omega)]; omega)]
    by_cases c2 : (sm (fun t => np none (chs (X t))) 16 : Int) + p.toInt ≤ 1024
    · rw [if_pos (show nI (sm (fun t => np none (chs (X t))) 16) ≤ 1024 - p by rw [Int32.le_iff_toInt_le, e2, nI_toInt (by omega)]; omega), if_pos ⟨c1, c2⟩]
    · rw [if_neg (show ¬ nI (sm (fun t => np none (chs (X t))) 16) ≤ 1024 - p by rw [Int32.le_iff_toInt_le, e2, nI_toInt (by omega)]; omega), if_neg (fun q => c2 q.2)]
  · rw [if_neg (show ¬ nI (sm (fun t => (chs (X t)).length) 16) ≤ 4096 - nI k by rw [Int32.le_iff_toInt_le, e1, nI_toInt (by omega)]; omega), if_neg (fun q => c1 q.1)]
theorem St.skip {S : xS} {T : Nat} {F : Nat → Prop} (h : St S T F) (n : Nat) : St (xskip S n) T F := by
  obtain ⟨h0, h1, h2, h3⟩ := h
  refine ⟨h0, h1, fun a ha => ?_, fun a ha => ?_⟩
  · have := h2 a ha
    show a < S.2.1 + 1; omega
  · have ha' : S.2.1 + 1 ≤ a := ha
    exact h3 a (by omega)
theorem CX.skip {S : xS} {x B R T nb : Nat} {g : Nat → Int32} {rts : Nat → Option Nat} {X : Nat → List nd} {G : Nat → Prop} (h : CX S x B R T nb g rts X G) (n : Nat) : CX (xskip S n) x B R T nb g rts X G := by
  obtain ⟨h1, h2, h3, h4, h5, h6, h7, h8, h9⟩ := h
  exact ⟨h1, h2, h3, h4, h5, h6, h7, h8.skip n, h9⟩
theorem rm.skip {S : xS} {n m : Nat} (h : rm S (n + 1) (m + 6)) : rm (xskip S 6) n m := by
  unfold rm at h ⊢
  show S.2.1 + 1 + n ≤ S.2.2.2.1 ∧ S.2.2.1 + 6 + m ≤ S.2.2.2.2
  omega
theorem c_become {S : xS} {x B R T nb d j h : Nat} {rts : Nat → Option Nat} {r : Option Nat} {xs : List nd} (h1 : S.1 x = some (pobj B nb R T)) (h3 : S.1 R = some (rarr rts)) (hj : j < 16) (tp : tr S.1 h r xs) (hd : 1 < d) : f_P_become d (some x) (nI j) r S = some (nI (tot xs), xset S R (rarr (va_up rts j r))) := by
  obtain ⟨d, rfl⟩ : ∃ e, d = e + 1 := ⟨d - 1, by omega⟩
  have hv : r = none ∨ (xobj S r 2).isSome = true := by
    rcases tr_top tp with ⟨e, _⟩ | ⟨a, _, _, _, _, _, rfl, _, e⟩
    · exact .inl e
    · right; rw [xobj_of e]; rfl
  have hRn : R ∉ ads xs := fun g => by
    obtain ⟨y, hy, e⟩ := List.mem_map.mp (show R ∈ xs.map (fun x => x.1) from g)
    obtain ⟨_, _, _, _, _, e2⟩ := tr_cell tp y hy
    rw [e, h3] at e2
    simp [pcell, rarr] at e2
  have tp' : tr (xset S R (rarr (va_up rts j r))).1 h r xs := tr_kept tp fun a ha => xset_ne _ (fun e => hRn (by rw [← e]; exact ha))
  show e_P_become d (some x) (nI j) r S = _
  simp only [e_P_become, b_P_become_20, gP2 h1, Option.bind_some, lR h3, if_neg (nI_pos (show j < 2 ^ 31 by omega)), if_neg (nI_ge (show j < 16 by omega) (by omega)), stR h3 hj hv, r_chars tp' (d := d) (by omega)]
