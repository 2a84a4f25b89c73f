/-! THE REFERENCE'S TEXTS -/
def off (C : Nat → List chr) (u : Nat) : Nat := sm (fun t => (C t).length) u
theorem sm_mono {f : Nat → Nat} : ∀ {n t : Nat}, t < n → sm f t + f t ≤ sm f n := by
  intro n
  induction n with
  | zero => intro t h; omega
  | succ n ih =>
    intro t h
    simp only [sm]
    by_cases c : t = n
    · subst c; omega
    · have := ih (t := t) (by omega); omega
theorem off_next (C : Nat → List chr) {t u : Nat} (h : t < u) : off C t + (C t).length ≤ off C u := sm_mono (f := fun t => (C t).length) h
theorem off_lo (C : Nat → List chr) {t u : Nat} (L : List chr) (h : u ≤ t) : off (va_up C t L) u = off C u :=
  sm_congr fun v hv => by rw [va_up_ne _ _ (by omega)]
theorem off_hi (C : Nat → List chr) {t u : Nat} (L : List chr) (h : t < u) : off (va_up C t L) u + (C t).length = off C u + L.length := by
  have := sm_up (f := fun v => (va_up C t L v).length) (g := fun v => (C v).length) (j := t) (n := u) (fun v _ hv => by rw [va_up_ne _ _ hv]) h
  rw [va_up_self] at this
  exact this
def hold (C : Nat → List chr) (gg gs gm : Nat → Int32) : Prop := (∀ u, u ≤ 16 → gg u = nI (off C u)) ∧ ∀ t, t < 16 → ∀ i y, (C t)[i]? = some y → gs (off C t + i) = nI y.1 ∧ gm (off C t + i) = y.2
def keptl (Kp : List chr) (g5 g6 : Nat → Int32) : Prop := ∀ i y, Kp[i]? = some y → g5 i = nI y.1 ∧ g6 i = y.2
abbrev MA : Type := Nat × Nat × Nat × Nat × Nat × Nat × Nat
def MI (S : xS) (A : MA) (code : Int32) (C : Nat → List chr) (Kp : List chr) (nb : Nat) (bs : Nat → Int32) : Prop :=
  ∃ gb gg gs gm g5 g6, MX S A.1 A.2.1 A.2.2.1 A.2.2.2.1 A.2.2.2.2.1 A.2.2.2.2.2.1 A.2.2.2.2.2.2 code nb gb gg gs gm g5 g6 ∧ hold C gg gs gm ∧ keptl Kp g5 g6 ∧ (∀ i, i < nb → gb i = bs i) ∧ off C 16 ≤ 4096
def MFA (A : MA) (S S' : xS) : Prop := MF A.1 A.2.1 A.2.2.1 A.2.2.2.1 A.2.2.2.2.1 A.2.2.2.2.2.1 A.2.2.2.2.2.2 S S'
theorem lt_len {L : List chr} {i : Nat} {y : chr} (h : L[i]? = some y) : i < L.length := (List.getElem?_eq_some_iff.mp h).1
section MDs
variable {S : xS} {A : MA} {code : Int32} {C : Nat → List chr} {Kp : List chr} {nb d : Nat} {bs : Nat → Int32}
theorem m_keep (h : MI S A code C Kp nb bs) {t a n : Nat} (ht : t < 16) (ha : a + n ≤ (C t).length) (hd : 0 < d) : ∃ S', f_M_keep d (some A.1) (nI t) (nI a) (nI n) S = some ((), S') ∧ MI S' A code C (rng (C t) a (a + n)) nb bs ∧ MFA A S S' := by
  obtain ⟨d, rfl⟩ : ∃ e, d = e + 1 := ⟨d - 1, by omega⟩
  obtain ⟨gb, gg, gs, gm, g5, g6, h, hh, hk, hb, ho⟩ := h
  have o1 := off_next C (t := t) (u := 16) ht
  obtain ⟨S', g5', g6', q1, q2, q3, q4, q5⟩ := k_loop (d := d) (t := t) (a := a) (n := n) (o := off C t) ht (by omega) xN 0 S gg gs gm g5 g6 (by omega) (by unfold xN; omega) (hh.1 t (by omega)) h
  refine ⟨S', q1, ⟨gb, gg, gs, gm, g5', g6', q2, hh, fun i y hy => ?_, hb, ho⟩, q3⟩
  have hi := lt_len hy
  rw [rng_len ha] at hi
  rw [rng_at (by omega)] at hy
  obtain ⟨e1, e2⟩ := hh.2 t ht _ y hy
  rw [q4 i, q5 i, if_pos (by omega), if_pos (by omega), Nat.add_assoc]
  exact ⟨e1, e2⟩
theorem m_remove (h : MI S A code C Kp nb bs) {t a n : Nat} (ht : t < 16) (ha : a + n ≤ (C t).length) (hd : 0 < d) : ∃ S', f_M_remove d (some A.1) (nI t) (nI a) (nI n) S = some ((), S') ∧ MI S' A code (va_up C t ((C t).take a ++ (C t).drop (a + n))) Kp nb bs ∧ MFA A S S' := by
  obtain ⟨d, rfl⟩ : ∃ e, d = e + 1 := ⟨d - 1, by omega⟩
  obtain ⟨gb, gg, gs, gm, g5, g6, h, hh, hk, hb, ho⟩ := h
  have o1 := off_next C (t := t) (u := 16) ht
  have hL : ((C t).take a ++ (C t).drop (a + n)).length = (C t).length - n := by
    simp only [List.length_append, List.length_take, List.length_drop]; omega
  obtain ⟨S', gg', gs', gm', q1, q2, q3, q4, q5, q6⟩ := r_loop (d := d) (t := t) (n := n) (e := off C 16) ht ho (by omega) xN (off C t + a) S gg gs gm g5 g6 (by unfold xN; omega) (by omega) (hh.1 16 (by omega)) h
  refine ⟨S', ?_, ⟨gb, gg', gs', gm', g5, g6, q2, ⟨fun u hu => ?_, fun v hv i y hy => ?_⟩, hk, hb, ?_⟩, q3⟩
  · show e_M_remove d (some A.1) (nI t) (nI a) (nI n) S = _
    simp only [e_M_remove, gM3 h, Option.bind_some, ldA h.2.2.1 (show t < 17 by omega) (by omega), hh.1 t (by omega), nI_add]
    exact q1
  · rw [q4 u]
    by_cases c : t < u
    · have e1 := off_hi C ((C t).take a ++ (C t).drop (a + n)) c
      have e2 := off_next C c
      rw [if_pos (by omega), hh.1 u hu, pk_sub (by omega)]
      congr 1; omega
    · rw [if_neg (by omega), hh.1 u hu, off_lo C _ (by omega)]
  · have key : ∀ p, (p < off C t + a → gs' p = gs p ∧ gm' p = gm p) ∧ (off C t + a ≤ p → p < off C 16 - n → gs' p = gs (p + n) ∧ gm' p = gm (p + n)) := fun p =>
      ⟨fun g => by rw [q5 p, q6 p, if_neg (by omega), if_neg (by omega)]; exact ⟨rfl, rfl⟩, fun g1 g2 => by rw [q5 p, q6 p, if_pos (by omega), if_pos (by omega)]; exact ⟨rfl, rfl⟩⟩
    by_cases e : v = t
    · subst e
      rw [va_up_self] at hy
      have hi := lt_len hy
      rw [hL] at hi
      rw [off_lo C _ (Nat.le_refl _)]
      by_cases c : i < a
      · rw [List.getElem?_append_left (by rw [List.length_take]; omega), List.getElem?_take_of_lt c] at hy
        obtain ⟨k1, k2⟩ := (key (off C v + i)).1 (by omega)
        rw [k1, k2]; exact hh.2 v ht i y hy
      · rw [List.getElem?_append_right (by rw [List.length_take]; omega), List.length_take, List.getElem?_drop] at hy
        have e1 : a + n + (i - min a (C v).length) = i + n := by omega
        rw [e1] at hy
        obtain ⟨k1, k2⟩ := (key (off C v + i)).2 (by omega) (by omega)
        rw [k1, k2, Nat.add_assoc]; exact hh.2 v ht (i + n) y hy
    · rw [va_up_ne _ _ e] at hy
      have hi := lt_len hy
      obtain ⟨e1, e2⟩ := hh.2 v hv i y hy
      by_cases c : v < t
      · have o2 := off_next C c
        rw [off_lo C _ (by omega)]
        obtain ⟨k1, k2⟩ := (key (off C v + i)).1 (by omega)
        rw [k1, k2]; exact ⟨e1, e2⟩
      · have o2 := off_hi C ((C t).take a ++ (C t).drop (a + n)) (show t < v by omega)
        have o3 := off_next C (show t < v by omega)
        have o4 := off_next C (t := v) (u := 16) hv
        obtain ⟨k1, k2⟩ := (key (off (va_up C t ((C t).take a ++ (C t).drop (a + n))) v + i)).2 (by omega) (by omega)
        have e3 : off (va_up C t ((C t).take a ++ (C t).drop (a + n))) v + i + n = off C v + i := by omega
        rw [k1, k2, e3]; exact ⟨e1, e2⟩
  · have o2 := off_hi C ((C t).take a ++ (C t).drop (a + n)) (show t < 16 by omega)
    omega
theorem m_insert (h : MI S A code C Kp nb bs) {t a n : Nat} (hn : Kp.length = n) (ht : t < 16) (ha : a ≤ (C t).length) (hf : off C 16 + n ≤ 4096) (hd : 0 < d) : ∃ S', f_M_insert d (some A.1) (nI t) (nI a) (nI n) S = some ((), S') ∧ MI S' A code (va_up C t ((C t).take a ++ (Kp ++ (C t).drop a))) Kp nb bs ∧ MFA A S S' := by
  obtain ⟨d, rfl⟩ : ∃ e, d = e + 1 := ⟨d - 1, by omega⟩
  obtain ⟨gb, gg, gs, gm, g5, g6, h, hh, hk, hb, ho⟩ := h
  have o1 := off_next C (t := t) (u := 16) ht
  have hL : ((C t).take a ++ (Kp ++ (C t).drop a)).length = (C t).length + n := by
    simp only [List.length_append, List.length_take, List.length_drop]; omega
  obtain ⟨S', gg', gs', gm', q1, q2, q3, q4, q5, q6⟩ := i_loop (d := d) (t := t) (n := n) (b := off C t + a) ht (by omega) xN (off C 16) S gg gs gm g5 g6 (by unfold xN; omega) (by omega) h
  refine ⟨S', ?_, ⟨gb, gg', gs', gm', g5, g6, q2, ⟨fun u hu => ?_, fun v hv i y hy => ?_⟩, hk, hb, ?_⟩, q3⟩
  · show e_M_insert d (some A.1) (nI t) (nI a) (nI n) S = _
    simp only [e_M_insert, gM3 h, Option.bind_some, ldA h.2.2.1 (show t < 17 by omega) (by omega), hh.1 t (by omega), nI_add, show (16 : Int32) = nI 16 from rfl, ldA h.2.2.1 (show 16 < 17 by omega) (by omega), hh.1 16 (by omega)]
    exact q1
  · rw [q4 u]
    by_cases c : t < u
    · have e1 := off_hi C ((C t).take a ++ (Kp ++ (C t).drop a)) c
      have e2 := off_next C c
      rw [if_pos (by omega), hh.1 u hu, nI_add]
      congr 1; omega
    · rw [if_neg (by omega), hh.1 u hu, off_lo C _ (by omega)]
  · have key : ∀ p, (p < off C t + a → gs' p = gs p ∧ gm' p = gm p) ∧ (∀ j, j < n → p = off C t + a + j → gs' p = g5 j ∧ gm' p = g6 j) ∧ (off C t + a + n ≤ p → p < off C 16 + n → gs' p = gs (p - n) ∧ gm' p = gm (p - n)) := fun p =>
      ⟨fun g => by rw [q5 p, q6 p, if_neg (by omega), if_neg (by omega), if_neg (by omega), if_neg (by omega)]; exact ⟨rfl, rfl⟩, fun j g1 g2 => by
        rw [q5 p, q6 p, if_pos (by omega), if_pos (by omega)]
        have : p - (off C t + a) = j := by omega
        rw [this]; exact ⟨rfl, rfl⟩, fun g1 g2 => by rw [q5 p, q6 p, if_neg (by omega), if_pos (by omega), if_neg (by omega), if_pos (by omega)]; exact ⟨rfl, rfl⟩⟩
    by_cases e : v = t
    · subst e
      rw [va_up_self] at hy
      have hi := lt_len hy
      rw [hL] at hi
      rw [off_lo C _ (Nat.le_refl _)]
      by_cases c : i < a
      · rw [List.getElem?_append_left (by rw [List.length_take]; omega), List.getElem?_take_of_lt c] at hy
        obtain ⟨k1, k2⟩ := (key (off C v + i)).1 (by omega)
        rw [k1, k2]; exact hh.2 v ht i y hy
      · rw [List.getElem?_append_right (by rw [List.length_take]; omega), List.length_take] at hy
        have e1 : i - min a (C v).length = i - a := by omega
        rw [e1] at hy
        by_cases c2 : i - a < n
        · rw [List.getElem?_append_left (by omega)] at hy
          obtain ⟨k1, k2⟩ := (key (off C v + i)).2.1 (i - a) c2 (by omega)
          rw [k1, k2]; exact hk _ y hy
        · rw [List.getElem?_append_right (by omega), List.getElem?_drop] at hy
          have e2 : a + (i - a - Kp.length) = i - n := by omega
          rw [e2] at hy
          obtain ⟨k1, k2⟩ := (key (off C v + i)).2.2 (by omega) (by omega)
          have e3 : off C v + i - n = off C v + (i - n) := by omega
          rw [k1, k2, e3]; exact hh.2 v ht (i - n) y hy
    · rw [va_up_ne _ _ e] at hy
      have hi := lt_len hy
      obtain ⟨e1, e2⟩ := hh.2 v hv i y hy
      by_cases c : v < t
      · have o2 := off_next C c
        rw [off_lo C _ (by omega)]
        obtain ⟨k1, k2⟩ := (key (off C v + i)).1 (by omega)
        rw [k1, k2]; exact ⟨e1, e2⟩
      · have o2 := off_hi C ((C t).take a ++ (Kp ++ (C t).drop a)) (show t < v by omega)
        have o3 := off_next C (show t < v by omega)
        have o4 := off_next C (t := v) (u := 16) hv
        obtain ⟨k1, k2⟩ := (key (off (va_up C t ((C t).take a ++ (Kp ++ (C t).drop a))) v + i)).2.2 (by omega) (by omega)
        have e3 : off (va_up C t ((C t).take a ++ (Kp ++ (C t).drop a))) v + i - n = off C v + i := by omega
        rw [k1, k2, e3]; exact ⟨e1, e2⟩
  · have o2 := off_hi C ((C t).take a ++ (Kp ++ (C t).drop a)) (show t < 16 by omega)
    omega
theorem m_size (h : MI S A code C Kp nb bs) {t : Nat} (ht : t < 16) (hd : 0 < d) : f_M_size d (some A.1) (nI t) S = some (nI (C t).length, S) := by
  obtain ⟨d, rfl⟩ : ∃ e, d = e + 1 := ⟨d - 1, by omega⟩
  obtain ⟨gb, gg, gs, gm, g5, g6, h, hh, hk, hb, ho⟩ := h
  have e : off C (t + 1) = off C t + (C t).length := rfl
  show e_M_size d (some A.1) (nI t) S = _
  simp only [e_M_size, gM3 h, Option.bind_some, nI_1, ldA h.2.2.1 (show t + 1 < 17 by omega) (by omega), ldA h.2.2.1 (show t < 17 by omega) (by omega), hh.1 t (by omega), hh.1 (t + 1) (by omega)]
  rw [pk_sub (by omega)]
  congr 3; omega
theorem m_isText (hd : 0 < d) (t : Int32) : (¬ tx t → f_M_isText d t S = some (0, S)) ∧ ∀ j, j < 16 → t = nI j → f_M_isText d t S = some (1, S) := by
  obtain ⟨d, rfl⟩ : ∃ e, d = e + 1 := ⟨d - 1, by omega⟩
  constructor
  · intro c
    show e_M_isText d t S = _
    simp only [e_M_isText]
    by_cases c1 : t < 0
    · rw [if_pos c1]; rfl
    · rw [if_neg c1]
      have c2 : (16 : Int32) ≤ t := by
        rw [Int32.le_iff_toInt_le]
        show (16 : Int) ≤ t.toInt
        have c1' : ¬ t.toInt < 0 := fun g => c1 (by rw [Int32.lt_iff_toInt_lt]; exact g)
        unfold tx at c
        omega
      rw [if_pos c2]; rfl
  · rintro j hj rfl
    show e_M_isText d (nI j) S = _
    simp only [e_M_isText, if_neg (nI_pos (show j < 2 ^ 31 by omega))]
    rw [if_neg (show ¬ (16 : Int32) ≤ nI j from nI_ge (b := 16) hj (by omega))]
    rfl
theorem tx_of (t : Int32) (h : tx t) : ∃ j, j < 16 ∧ t = nI j ∧ t.toInt.toNat = j := by
  rcases tx_cases t with ⟨_, nc⟩ | ⟨j, hj, e, _, e2⟩
  · exact absurd h nc
  · exact ⟨j, hj, e, e2⟩
theorem tx_nI {j : Nat} (h : j < 16) : tx (nI j) := by
  unfold tx
  rw [nI_toInt (by omega)]; omega
theorem m_isPlace (h : MI S A code C Kp nb bs) (hd : 1 < d) (t a : Int32) : (¬ pl C t a → f_M_isPlace d (some A.1) t a S = some (0, S)) ∧ (pl C t a → f_M_isPlace d (some A.1) t a S = some (1, S)) := by
  obtain ⟨d, rfl⟩ : ∃ e, d = e + 1 := ⟨d - 1, by omega⟩
  have ho := h
  obtain ⟨_, _, _, _, _, _, hx, _, _, _, hoff⟩ := h
  obtain ⟨w, hw⟩ := gMo hx
  have hval : f_M_isPlace (d + 1) (some A.1) t a S = e_M_isPlace d (some A.1) t a S := rfl
  rw [hval]
  by_cases c : tx t
  · obtain ⟨j, hj, rfl, ej⟩ := tx_of t c
    have o1 := off_next C (t := j) (u := 16) hj
    simp only [e_M_isPlace, (m_isText (S := S) (d := d) (by omega) (nI j)).2 j hj rfl, Option.bind_some, hw, m_size ho (d := d) hj (by omega)]
    rw [if_neg (show ¬ (1 : Int32) = 0 by decide)]
    have a0 : (0 : Int32).toInt = 0 := rfl
    by_cases c1 : a < 0
    · rw [if_pos c1]
      refine ⟨fun _ => rfl, fun g => ?_⟩
      have := g.2.2.1
      rw [Int32.lt_iff_toInt_lt] at c1; omega
    · rw [if_neg c1]
      obtain ⟨k, hk, rfl⟩ := nI_of c1
      have epl : pl C (nI j) (nI k) ↔ k ≤ (C j).length := by
        unfold pl
        rw [ej, nI_toInt hk, nI_toInt (by omega)]
        constructor
        · intro g; omega
        · intro g; exact ⟨by omega, by omega, by omega, by omega⟩
      rw [iflt (by omega) hk]
      by_cases c2 : (C j).length < k
      · rw [if_pos c2]
        exact ⟨fun _ => rfl, fun g => absurd (epl.mp g) (by omega)⟩
      · rw [if_neg c2]
        exact ⟨fun g => absurd (epl.mpr (by omega)) g, fun _ => rfl⟩
  · simp only [e_M_isPlace, (m_isText (S := S) (d := d) (by omega) t).1 c, Option.bind_some]
    exact ⟨fun _ => rfl, fun g => absurd ⟨g.1, g.2.1⟩ c⟩
theorem m_isRange (h : MI S A code C Kp nb bs) (hd : 2 < d) (t a q : Int32) : (¬ rg C t a q → f_M_isRange d (some A.1) t a q S = some (0, S)) ∧ (rg C t a q → f_M_isRange d (some A.1) t a q S = some (1, S)) := by
  obtain ⟨d, rfl⟩ : ∃ e, d = e + 1 := ⟨d - 1, by omega⟩
  have ho := h
  obtain ⟨_, _, _, _, _, _, hx, _, _, _, hoff⟩ := h
  obtain ⟨w, hw⟩ := gMo hx
  have hval : f_M_isRange (d + 1) (some A.1) t a q S = e_M_isRange d (some A.1) t a q S := rfl
  rw [hval]
  by_cases c : pl C t a
  · obtain ⟨j, hj, rfl, ej⟩ := tx_of t ⟨c.1, c.2.1⟩
    have o1 := off_next C (t := j) (u := 16) hj
    simp only [e_M_isRange, (m_isPlace ho (d := d) (by omega) (nI j) a).2 c, Option.bind_some, hw, m_size ho (d := d) hj (by omega)]
    rw [if_neg (show ¬ (1 : Int32) = 0 by decide)]
    have a0 : (0 : Int32).toInt = 0 := rfl
    by_cases c1 : q < 0
    · rw [if_pos c1]
      refine ⟨fun _ => rfl, fun g => ?_⟩
      have := g.2.1
      rw [Int32.lt_iff_toInt_lt] at c1; omega
    · rw [if_neg c1]
      obtain ⟨l, hl, rfl⟩ := nI_of c1
      obtain ⟨k, hk, rfl⟩ := nI_of (x := a) (by rw [Int32.lt_iff_toInt_lt]; have := c.2.2.1; show ¬ a.toInt < 0; omega)
      have hkl : k ≤ (C j).length := by
        have := c.2.2.2
        rw [ej, nI_toInt hk] at this; omega
      have erg : rg C (nI j) (nI k) (nI l) ↔ k + l ≤ (C j).length := by
        unfold rg
        rw [ej, nI_toInt hk, nI_toInt hl]
        constructor
        · intro g; omega
        · intro g; exact ⟨c, by omega, by omega⟩
      rw [pk_sub hkl, iflt (by omega) hl]
      by_cases c2 : (C j).length - k < l
      · rw [if_pos c2]
        exact ⟨fun _ => rfl, fun g => absurd (erg.mp g) (by omega)⟩
      · rw [if_neg c2]
        exact ⟨fun g => absurd (erg.mpr (by omega)) g, fun _ => rfl⟩
  · simp only [e_M_isRange, (m_isPlace ho (d := d) (by omega) t a).1 c, Option.bind_some, hw]
    exact ⟨fun _ => rfl, fun g => absurd g.1 c⟩
theorem m_parts (h : MI S A code C Kp nb bs) (cb : ∀ t, t < 16 → ∀ c ∈ C t, c.1 < 4096) {t i : Nat} {y : chr} (ht : t < 16) (hy : (C t)[i]? = some y) (hd : 0 < d) : f_M_parts d (some A.1) (nI t) (nI (off C t + i)) S = some (nI (mq (lst none ((C t).take i)) y), S) := by
  obtain ⟨d, rfl⟩ : ∃ e, d = e + 1 := ⟨d - 1, by omega⟩
  obtain ⟨gb, gg, gs, gm, g5, g6, h, hh, hk, hb, ho⟩ := h
  have o1 := off_next C (t := t) (u := 16) ht
  have hi := lt_len hy
  show e_M_parts d (some A.1) (nI t) (nI (off C t + i)) S = _
  simp only [e_M_parts, gM3 h, Option.bind_some, ldA h.2.2.1 (show t < 17 by omega) (by omega), hh.1 t (by omega)]
  rw [ifeq (by omega) (by omega)]
  cases i with
  | zero =>
    rw [if_pos (by omega)]
    rfl
  | succ k =>
    rw [if_neg (by omega)]
    obtain ⟨z, hz⟩ : ∃ z, (C t)[k]? = some z := ⟨_, List.getElem?_eq_getElem (by omega)⟩
    obtain ⟨e1, e2⟩ := hh.2 t ht _ y hy
    obtain ⟨e3, e4⟩ := hh.2 t ht _ z hz
    have by' := cb t ht y (List.mem_of_getElem? hy)
    have bz := cb t ht z (List.mem_of_getElem? hz)
    have ep : nI (off C t + (k + 1)) - 1 = nI (off C t + k) := nI_pred (off C t + k)
    rw [ep]
    simp only [gM4 h, gM5 h, Option.bind_some, ldA h.2.2.2.1 (show off C t + (k + 1) < 4096 by omega) (by omega), ldA h.2.2.2.1 (show off C t + k < 4096 by omega) (by omega), ldA h.2.2.2.2.1 (show off C t + (k + 1) < 4096 by omega) (by omega), ldA h.2.2.2.2.1 (show off C t + k < 4096 by omega) (by omega), e1, e2, e3, e4, nI_1, lst_take hz, mq]
    rw [ifeq (by omega) (by omega)]
    by_cases c1 : y.1 = z.1 + 1
    · rw [if_pos c1]
      by_cases c2 : y.2 = z.2
      · rw [if_pos c2, if_pos ⟨c1.symm, c2.symm⟩]; rfl
      · rw [if_neg c2, if_neg (fun g => c2 g.2.symm)]; rfl
    · rw [if_neg c1, if_neg (fun g => c1 g.1.symm)]; rfl
theorem np_step {L : List chr} {i : Nat} {y : chr} (h : L[i]? = some y) : np none (L.take (i + 1)) = np none (L.take i) + mq (lst none (L.take i)) y := by
  rw [List.take_succ, h, np_app]
  simp [np]
theorem m_pieces0 (h : MI S A code C Kp nb bs) (cb : ∀ t, t < 16 → ∀ c ∈ C t, c.1 < 4096) {t : Nat} (ht : t < 16) (hd : 0 < d) : ∀ f i, i ≤ (C t).length → (C t).length - i < f → l_M_pieces_9 d f (some A.1) (nI t) (nI (np none ((C t).take i))) (nI (off C t + i)) S = some (nI (np none (C t)), S) := by
  intro f
  induction f with
  | zero => intro i _ h; omega
  | succ f ih =>
    intro i hi hf
    have hM := h
    obtain ⟨gb, gg, gs, gm, g5, g6, h, hh, hk, hb, ho⟩ := h
    obtain ⟨w, hw⟩ := gMo h
    have o1 := off_next C (t := t) (u := 16) ht
    have e : off C (t + 1) = off C t + (C t).length := rfl
    show b_M_pieces_9 d (l_M_pieces_9 d f) (some A.1) (nI t) _ _ S = _
    simp only [b_M_pieces_9, b_M_pieces_36, gM3 h, Option.bind_some, nI_1, ldA h.2.2.1 (show t + 1 < 17 by omega) (by omega), hh.1 (t + 1) (by omega), hw]
    rw [ifle (by omega) (by omega)]
    by_cases c : off C (t + 1) ≤ off C t + i
    · rw [if_pos c, List.take_of_length_le (by omega)]
    · rw [if_neg c]
      obtain ⟨y, hy⟩ : ∃ y, (C t)[i]? = some y := ⟨_, List.getElem?_eq_getElem (by omega)⟩
      have hs := np_step hy
      have hq := mq_le (lst none ((C t).take i)) y
      have ih' := ih (i + 1) (by omega) (by omega)
      simp only [m_parts hM cb ht hy hd, Option.bind_some]
      by_cases c1 : mq (lst none ((C t).take i)) y = 0
      · rw [c1, if_pos (show nI 0 = 0 from rfl)]
        rw [hs, c1, Nat.add_zero] at ih'
        rw [Int32.add_zero]
        exact ih'
      · have c2 : mq (lst none ((C t).take i)) y = 1 := by omega
        rw [c2, if_neg (show ¬ nI 1 = 0 by decide)]
        rw [hs, c2] at ih'
        exact ih'
theorem m_pieces (h : MI S A code C Kp nb bs) (cb : ∀ t, t < 16 → ∀ c ∈ C t, c.1 < 4096) {t : Nat} (ht : t < 16) (hd : 1 < d) : f_M_pieces d (some A.1) (nI t) S = some (nI (np none (C t)), S) := by
  obtain ⟨d, rfl⟩ : ∃ e, d = e + 1 := ⟨d - 1, by omega⟩
  have hM := h
  obtain ⟨gb, gg, gs, gm, g5, g6, h, hh, hk, hb, ho⟩ := h
  have o1 := off_next C (t := t) (u := 16) ht
  show e_M_pieces d (some A.1) (nI t) S = _
  simp only [e_M_pieces, gM3 h, Option.bind_some, ldA h.2.2.1 (show t < 17 by omega) (by omega), hh.1 t (by omega)]
  exact m_pieces0 hM cb ht (d := d) (by omega) xN 0 (by omega) (by unfold xN; omega)
theorem m_all0 (h : MI S A code C Kp nb bs) (cb : ∀ t, t < 16 → ∀ c ∈ C t, c.1 < 4096) (hd : 1 < d) : ∀ f k, k ≤ 16 → 16 - k < f → l_M_allPieces_4 d f (some A.1) (nI (sm (fun t => np none (C t)) k)) (nI k) S = some (nI (sm (fun t => np none (C t)) 16), S) := by
  intro f
  induction f with
  | zero => intro k _ h; omega
  | succ f ih =>
    intro k hk hf
    have hM := h
    obtain ⟨_, _, _, _, _, _, hx, _⟩ := h
    obtain ⟨w, hw⟩ := gMo hx
    show b_M_allPieces_4 d (l_M_allPieces_4 d f) (some A.1) _ _ S = _
    simp only [b_M_allPieces_4]
    rw [show (16 : Int32) = nI 16 from rfl, ifle (by omega) (by omega)]
    by_cases c : 16 ≤ k
    · have : k = 16 := by omega
      rw [if_pos c, this]
    · rw [if_neg c]
      simp only [hw, m_pieces hM cb (t := k) (by omega) hd, Option.bind_some, nI_add, nI_1]
      exact ih (k + 1) (by omega) (by omega)
theorem m_all (h : MI S A code C Kp nb bs) (cb : ∀ t, t < 16 → ∀ c ∈ C t, c.1 < 4096) (hd : 2 < d) : f_M_allPieces d (some A.1) S = some (nI (sm (fun t => np none (C t)) 16), S) := by
  obtain ⟨d, rfl⟩ : ∃ e, d = e + 1 := ⟨d - 1, by omega⟩
  exact m_all0 h cb (d := d) (by omega) xN 0 (by omega) (by unfold xN; omega)
end MDs
