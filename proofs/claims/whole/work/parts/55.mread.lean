/-! THE REFERENCE: LENGTH, LOOK, PIECE, FIND, DIFFER, COUNT -/
theorem np_mono (L : List chr) {i j : Nat} (h : i ≤ j) : np none (L.take i) ≤ np none (L.take j) := by
  rw [rng_take L h, np_app]; omega
theorem what_in {w : Int32} (h0 : w ≠ 0) (h1 : w ≠ 1) (h2 : w ≠ 2) (h3 : w ≠ 3) : w < 0 ∨ ¬ w ≤ 3 := by
  by_cases c : w < 0
  · exact .inl c
  · right
    intro g
    obtain ⟨j, hj, rfl⟩ := nI_of2 (M := 3) (n := 3) rfl c g
    have : j = 0 ∨ j = 1 ∨ j = 2 ∨ j = 3 := by omega
    rcases this with rfl | rfl | rfl | rfl
    · exact h0 rfl
    · exact h1 rfl
    · exact h2 rfl
    · exact h3 rfl
section MR
variable {S : xS} {A : MA} {code : Int32} {C : Nat → List chr} {Kp : List chr} {nb d : Nat} {bs : Nat → Int32}
theorem m_length (h : MI S A code C Kp nb bs) (hd : 20 < d) {t r : Int32} (o : olen C t r) : ∃ S', f_M_length d (some A.1) t S = some (r, S') ∧ MI S' A 0 C Kp nb bs ∧ MFA A S S' := by
  obtain ⟨d, rfl⟩ : ∃ e, d = e + 1 := ⟨d - 1, by omega⟩
  obtain ⟨S1, q1, q2, q3⟩ := m_put0 h 0
  obtain ⟨v1, hv1⟩ := m_obj q2
  refine ⟨S1, ?_, q2, q3⟩
  show e_M_length d (some A.1) t S = _
  rcases o with ⟨nok, rfl⟩ | ⟨j, hj, rfl, rfl⟩
  · simp only [e_M_length, q1, Option.bind_some, (m_isText (S := S1) (d := d) (by omega) t).1 nok]
    rfl
  · simp only [e_M_length, q1, Option.bind_some, (m_isText (S := S1) (d := d) (by omega) (nI j)).2 j hj rfl, hv1, m_size q2 (d := d) hj (by omega)]
    rfl
theorem m_count (h : MI S A code C Kp nb bs) (cb : ∀ t, t < 16 → ∀ c ∈ C t, c.1 < 4096) (hd : 20 < d) {what r : Int32} (o : ocount C nb what r) : ∃ S', f_M_count d (some A.1) what S = some (r, S') ∧ MI S' A 0 C Kp nb bs ∧ MFA A S S' := by
  obtain ⟨d, rfl⟩ : ∃ e, d = e + 1 := ⟨d - 1, by omega⟩
  obtain ⟨S1, q1, q2, q3⟩ := m_put0 h 0
  obtain ⟨v1, hv1⟩ := m_obj q2
  refine ⟨S1, ?_, q2, q3⟩
  show e_M_count d (some A.1) what S = _
  simp only [e_M_count, q1, Option.bind_some, b_M_count_53, m_nb q2, hv1, m_all q2 cb (d := d) (by omega)]
  rw [show (16 : Int32) = nI 16 from rfl, m_beg q2 (by omega)]
  rcases o with ⟨rfl, rfl⟩ | ⟨rfl, rfl⟩ | ⟨rfl, rfl⟩ | ⟨rfl, rfl⟩ | ⟨h0, h1, h2, h3, rfl⟩
  · rfl
  · rfl
  · rfl
  · rfl
  · rw [if_neg h0, if_neg h1, if_neg h2, if_neg h3]
theorem ml_loop (h : MI S A code C Kp nb bs) (cb : ∀ t, t < 16 → ∀ c ∈ C t, c.1 < 4096) (hnb : nb ≤ 2048) {t k : Nat} {y : chr} {what : Int32} (ht : t < 16) (hy : (C t)[k]? = some y) (hyb : y.1 < nb) (hd : 1 < d) : ∀ f i, i ≤ k + 1 → k + 1 - i < f → l_M_look_70 d f (some A.1) (nI t) what (nI (off C t + k)) (nI (np none ((C t).take i)) - 1) (nI (off C t + i)) S = (if what = 0 then some (bs y.1, S) else if what = 1 then some (nI y.1, S) else if what = 2 then some (y.2, S) else some (nI (np none ((C t).take (k + 1)) - 1), S)) := by
  intro f
  induction f with
  | zero => intro i _ h; omega
  | succ f ih =>
    intro i hi hf
    have hM := h
    obtain ⟨gb, gg, gs, gm, g5, g6, h, hh, hk, hb, ho⟩ := h
    obtain ⟨v, hv⟩ := gMo h
    have o1 := off_next C (t := t) (u := 16) ht
    have hkl := lt_len hy
    show b_M_look_70 d (l_M_look_70 d f) (some A.1) (nI t) what _ _ _ S = _
    simp only [b_M_look_70, b_M_look_94, b_M_look_154]
    rw [iflt (by omega) (by omega)]
    by_cases c : off C t + k < off C t + i
    · have e : i = k + 1 := by omega
      subst e
      obtain ⟨e1, e2⟩ := hh.2 t ht k y hy
      have np1 : 1 ≤ np none ((C t).take (k + 1)) := by
        cases hL : C t with
        | nil => rw [hL] at hy; simp at hy
        | cons z L =>
          rw [List.take_succ_cons]
          exact np_head (y := z) rfl
      have e3 : nI (np none ((C t).take (k + 1))) - 1 = nI (np none ((C t).take (k + 1)) - 1) := by
        obtain ⟨q, hq⟩ : ∃ q, np none ((C t).take (k + 1)) = q + 1 := ⟨np none ((C t).take (k + 1)) - 1, by omega⟩
        rw [hq, nI_pred]; rfl
      rw [if_pos c]
      simp only [gM2 h, gM4 h, gM5 h, Option.bind_some, ldA h.2.2.2.1 (show off C t + k < 4096 by omega) (by omega), ldA h.2.2.2.2.1 (show off C t + k < 4096 by omega) (by omega), e1, e2, ldA h.2.1 (show y.1 < 2048 by omega) (by omega), hb _ hyb, e3]
    · rw [if_neg c]
      obtain ⟨z, hz⟩ : ∃ z, (C t)[i]? = some z := ⟨_, List.getElem?_eq_getElem (by omega)⟩
      have hs := np_step hz
      have hq := mq_le (lst none ((C t).take i)) z
      have ih' := ih (i + 1) (by omega) (by omega)
      simp only [hv, m_parts hM cb ht hz (d := d) (by omega), Option.bind_some, nI_1]
      by_cases c1 : mq (lst none ((C t).take i)) z = 0
      · rw [c1, if_pos (show nI 0 = 0 from rfl), Int32.add_zero]
        rw [hs, c1, Nat.add_zero] at ih'
        exact ih'
      · have c2 : mq (lst none ((C t).take i)) z = 1 := by omega
        rw [c2, if_neg (show ¬ nI 1 = 0 by decide)]
        rw [hs, c2] at ih'
        have e4 : nI (np none ((C t).take i)) - 1 + 1 = nI (np none ((C t).take i) + 1) - 1 := by
          rw [nI_pred, Int32.sub_add_cancel]
        rw [e4]
        exact ih'
theorem m_look (h : MI S A code C Kp nb bs) (w : WF C nb) (hd : 20 < d) {t a what : Int32} {r : Int32 ⊕ Nat} (o : olook C bs t a what r) :
    ∃ S' b c, f_M_look d (some A.1) t a what S = some (b, S') ∧ MI S' A c C Kp nb bs ∧ MFA A S S' ∧ ((∃ v, r = .inl v ∧ c = 0 ∧ b = v) ∨ (r = .inr 2 ∧ c = 1) ∨ (r = .inr 0 ∧ c = 2)) := by
  obtain ⟨d, rfl⟩ : ∃ e, d = e + 1 := ⟨d - 1, by omega⟩
  obtain ⟨w1, w2, w3, w4⟩ := id w
  have cbC : ∀ t, t < 16 → ∀ c ∈ C t, c.1 < 4096 := fun t ht c hc => by have := w3 t ht c hc; omega
  have o16 : off C 16 ≤ 4096 := w1
  obtain ⟨wo, hwo⟩ := m_obj h
  have no : ∀ y : Int32, ¬ y ≤ 0 → ∃ S1, (∀ y1 y2 y3, b_M_look_37 d (some A.1) y1 y2 y3 y (some A.1) S = some (0, S1)) ∧ MI S1 A y C Kp nb bs ∧ MFA A S S1 := fun y hy => by
    obtain ⟨S1, q1, q2, q3⟩ := m_put0 h y
    refine ⟨S1, fun y1 y2 y3 => ?_, q2, q3⟩
    simp only [b_M_look_37, q1, Option.bind_some, m_get q2]
    rw [if_neg hy]
  obtain ⟨S1, n1, n2, n3⟩ := no 1 (by decide)
  obtain ⟨S2, p1, p2, p3⟩ := no 2 (by decide)
  show ∃ S' b c, e_M_look d (some A.1) t a what S = some (b, S') ∧ _
  rcases o with ⟨nok, rfl⟩ | ⟨j, k, y, hj, rfl, rfl, hy, o⟩
  · refine ⟨S1, 0, 1, ?_, n2, n3, .inr (.inl ⟨rfl, rfl⟩)⟩
    simp only [e_M_look, hwo, Option.bind_some, b_M_look_19]
    by_cases c : pl C t a
    · obtain ⟨j, hj, rfl, ej⟩ := tx_of t ⟨c.1, c.2.1⟩
      have o1 := off_next C (t := j) (u := 16) hj
      obtain ⟨k, hk, rfl⟩ := nI_of (x := a) (by rw [Int32.lt_iff_toInt_lt]; have := c.2.2.1; show ¬ a.toInt < 0; omega)
      have hkl := (pl_nI C hj hk).mp c
      have e1 : k = (C j).length := by
        rcases Nat.lt_or_ge k (C j).length with g | g
        · refine absurd ⟨⟨c.1, c.2.1⟩, ?_, ?_⟩ nok
          · rw [nI_toInt hk]; omega
          · rw [ej, nI_toInt hk]; omega
        · omega
      simp only [(m_isPlace h (d := d) (by omega) (nI j) (nI k)).2 c, Option.bind_some, hwo, m_size h (d := d) hj (by omega)]
      rw [if_neg (by decide), if_pos (by rw [e1]), n1]
    · simp only [(m_isPlace h (d := d) (by omega) t a).1 c, Option.bind_some]
      rw [if_pos trivial, n1]
  have o1 := off_next C (t := j) (u := 16) hj
  have hkl := lt_len hy
  have hyb := w3 j hj y (List.mem_of_getElem? hy)
  have hpl : pl C (nI j) (nI k) := (pl_nI C hj (by omega)).mpr (by omega)
  obtain ⟨T1, q1, q2, q3⟩ := m_put0 h 0
  have hlp := ml_loop (d := d) q2 cbC w4 (what := what) hj hy hyb (by omega) xN 0 (by omega) (by unfold xN; omega)
  have hlp' : l_M_look_70 d xN (some A.1) (nI j) what (nI (off C j + k)) (-1) (nI (off C j)) T1 = _ := hlp
  have head : e_M_look d (some A.1) (nI j) (nI k) what S = if what < 0 then some (0, S2) else if what ≤ 3 then (if what = 0 then some (bs y.1, T1) else if what = 1 then some (nI y.1, T1) else if what = 2 then some (y.2, T1) else some (nI (np none ((C j).take (k + 1)) - 1), T1)) else some (0, S2) := by
    simp only [e_M_look, hwo, Option.bind_some, (m_isPlace h (d := d) (by omega) (nI j) (nI k)).2 hpl, m_size h (d := d) hj (by omega), b_M_look_32, p1]
    rw [if_neg (show ¬ (1 : Int32) = 0 by decide), ifeq (by omega) (by omega), if_neg (by omega)]
    have e1 : b_M_look_37 d (some A.1) (nI j) (nI k) what 0 (some A.1) S = (if what = 0 then some (bs y.1, T1) else if what = 1 then some (nI y.1, T1) else if what = 2 then some (y.2, T1) else some (nI (np none ((C j).take (k + 1)) - 1), T1)) := by
      simp only [b_M_look_37, q1, Option.bind_some, m_get q2]
      rw [if_pos (show (0 : Int32) ≤ 0 by decide), m_beg q2 (by omega), m_beg q2 (by omega), nI_add]
      exact hlp'
    rw [e1]
  rw [head]
  rcases o with ⟨rfl, rfl⟩ | ⟨rfl, rfl⟩ | ⟨rfl, rfl⟩ | ⟨rfl, rfl⟩ | ⟨h0, h1, h2, h3, rfl⟩
  · exact ⟨T1, _, 0, rfl, q2, q3, .inl ⟨_, rfl, rfl, rfl⟩⟩
  · exact ⟨T1, _, 0, rfl, q2, q3, .inl ⟨_, rfl, rfl, rfl⟩⟩
  · exact ⟨T1, _, 0, rfl, q2, q3, .inl ⟨_, rfl, rfl, rfl⟩⟩
  · exact ⟨T1, _, 0, rfl, q2, q3, .inl ⟨_, rfl, rfl, rfl⟩⟩
  · refine ⟨S2, 0, 2, ?_, p2, p3, .inr (.inr ⟨rfl, rfl⟩)⟩
    rcases what_in h0 h1 h2 h3 with g | g
    · rw [if_pos g]
    · rw [if_neg g]
      by_cases c : what < 0
      · rw [if_pos c]
      · rw [if_neg c]
theorem mp2_loop (h : MI S A code C Kp nb bs) (cb : ∀ t, t < 16 → ∀ c ∈ C t, c.1 < 4096) {t q p s z : Nat} {tg what : Int32} (ht : t < 16) (hp : pc (C t) q p s z tg) (hd : 1 < d) : ∀ f n, 1 ≤ n → n ≤ z → z - n < f → l_M_piece_96 d f (some A.1) (nI t) what (nI (off C t + p)) (nI n) S = b_M_piece_131 d (some A.1) (nI t) what (nI (off C t + p)) (nI z) S := by
  obtain ⟨p1, p2, p3, p4, p5, p6⟩ := hp
  intro f
  induction f with
  | zero => intro n _ _ h; omega
  | succ f ih =>
    intro n h1 hn hf
    have hM := h
    obtain ⟨gb, gg, gs, gm, g5, g6, h, hh, hk, hb, ho⟩ := h
    obtain ⟨v, hv⟩ := gMo h
    have o1 := off_next C (t := t) (u := 16) ht
    have e : off C (t + 1) = off C t + (C t).length := rfl
    show b_M_piece_96 d (l_M_piece_96 d f) (some A.1) (nI t) what _ _ S = _
    simp only [b_M_piece_96, gM3 h, Option.bind_some, nI_1, nI_add, ldA h.2.2.1 (show t + 1 < 17 by omega) (by omega), hh.1 (t + 1) (by omega), hv]
    rw [ifle (by omega) (by omega)]
    by_cases c : off C (t + 1) ≤ off C t + p + n
    · have : n = z := by omega
      rw [if_pos c, this]
    · rw [if_neg c]
      obtain ⟨y, hy⟩ : ∃ y, (C t)[p + n]? = some y := ⟨_, List.getElem?_eq_getElem (by omega)⟩
      have hl : lst none ((C t).take (p + n)) = some (s + n - 1, tg) := by
        obtain ⟨m, rfl⟩ : ∃ m, n = m + 1 := ⟨n - 1, by omega⟩
        have := p5 m (by omega)
        rw [← Nat.add_assoc, lst_take this]
        rfl
      have hpt := m_parts hM cb ht hy (d := d) (by omega)
      rw [← Nat.add_assoc, hl] at hpt
      rw [hpt]
      simp only [Option.bind_some]
      by_cases c2 : n = z
      · subst c2
        rw [p6 y hy, if_neg (show ¬ nI 1 = 0 by decide)]
      · have hy' := p5 n (by omega)
        rw [hy] at hy'
        cases hy'
        have : mq (some (s + n - 1, tg)) (s + n, tg) = 0 := by
          simp only [mq]
          rw [if_pos ⟨by omega, trivial⟩]
        rw [this, if_pos (show nI 0 = 0 from rfl)]
        exact ih (n + 1) (by omega) (by omega) (by omega)
theorem mp1_loop (h : MI S A code C Kp nb bs) (cb : ∀ t, t < 16 → ∀ c ∈ C t, c.1 < 4096) {t q p s z : Nat} {tg what : Int32} (ht : t < 16) (hp : pc (C t) q p s z tg) (hd : 1 < d) : ∀ f i, i ≤ p → p - i < f → l_M_piece_62 d f (some A.1) (nI t) what (nI (q + 1 - np none ((C t).take (i + 1)))) (nI (off C t + i)) S = b_M_piece_131 d (some A.1) (nI t) what (nI (off C t + p)) (nI z) S := by
  obtain ⟨p1, p2, p3, p4, p5, p6⟩ := id hp
  have hs0 : (C t)[p]? = some (s, tg) := by have := p5 0 p1; simpa using this
  have hsp : np none ((C t).take (p + 1)) = q + 1 := by rw [np_step hs0, p3, p4]
  intro f
  induction f with
  | zero => intro i _ h; omega
  | succ f ih =>
    intro i hi hf
    have hM := h
    obtain ⟨gb, gg, gs, gm, g5, g6, h, hh, hk, hb, ho⟩ := h
    obtain ⟨v, hv⟩ := gMo h
    have o1 := off_next C (t := t) (u := 16) ht
    have hle := np_mono (C t) (i := i + 1) (j := p + 1) (by omega)
    have npl := np_le (C t) none
    have npt := np_le ((C t).take p) none
    rw [List.length_take] at npt
    show b_M_piece_62 d (l_M_piece_62 d f) (some A.1) (nI t) what _ _ S = _
    simp only [b_M_piece_62, b_M_piece_87, nI_1]
    rw [show (0 : Int32) = nI 0 from rfl, ifle (by omega) (by omega)]
    by_cases c : q + 1 - np none ((C t).take (i + 1)) ≤ 0
    · have e : i = p := by
        rcases Nat.lt_or_ge i p with g | g
        · have := np_mono (C t) (i := i + 1) (j := p) (by omega)
          omega
        · omega
      subst e
      rw [if_pos c]
      exact mp2_loop hM cb ht hp hd xN 1 (by omega) p1 (by unfold xN; omega)
    · rw [if_neg c]
      have hip : i < p := by
        rcases Nat.lt_or_ge i p with g | g
        · exact g
        · have : i = p := by omega
          subst this; omega
      obtain ⟨y, hy⟩ : ∃ y, (C t)[i + 1]? = some y := ⟨_, List.getElem?_eq_getElem (by omega)⟩
      have hs := np_step hy
      have hq := mq_le (lst none ((C t).take (i + 1))) y
      have ih' := ih (i + 1) (by omega) (by omega)
      have hpt := m_parts hM cb ht hy (d := d) (by omega)
      rw [← Nat.add_assoc] at hpt
      simp only [hv, Option.bind_some, hpt]
      have hle2 := np_mono (C t) (i := i + 1 + 1) (j := p + 1) (by omega)
      by_cases c1 : mq (lst none ((C t).take (i + 1))) y = 0
      · rw [c1, if_pos rfl, pk_sub (by omega), Nat.sub_zero]
        rw [hs, c1, Nat.add_zero] at ih'
        exact ih'
      · have c2 : mq (lst none ((C t).take (i + 1))) y = 1 := by omega
        rw [c2, if_neg (show ¬ nI 1 = nI 0 by decide), show (1 : Int32) = nI 1 from rfl, pk_sub (by omega)]
        rw [hs, c2, ← Nat.sub_sub] at ih'
        exact ih'
theorem m_piece (h : MI S A code C Kp nb bs) (w : WF C nb) (hd : 20 < d) {t k what : Int32} {r : Int32 ⊕ Nat} (o : opiece C t k what r) :
    ∃ S' b c, f_M_piece d (some A.1) t k what S = some (b, S') ∧ MI S' A c C Kp nb bs ∧ MFA A S S' ∧ ((∃ v, r = .inl v ∧ c = 0 ∧ b = v) ∨ (r = .inr 2 ∧ c = 1) ∨ (r = .inr 0 ∧ c = 2)) := by
  obtain ⟨d, rfl⟩ : ∃ e, d = e + 1 := ⟨d - 1, by omega⟩
  obtain ⟨w1, w2, w3, w4⟩ := id w
  have cbC : ∀ t, t < 16 → ∀ c ∈ C t, c.1 < 4096 := fun t ht c hc => by have := w3 t ht c hc; omega
  have o16 : off C 16 ≤ 4096 := w1
  obtain ⟨wo, hwo⟩ := m_obj h
  have no : ∀ y : Int32, ¬ y ≤ 0 → ∃ S1, (∀ y1 y2 y3, b_M_piece_39 d (some A.1) y1 y2 y3 y (some A.1) S = some (0, S1)) ∧ MI S1 A y C Kp nb bs ∧ MFA A S S1 := fun y hy => by
    obtain ⟨S1, q1, q2, q3⟩ := m_put0 h y
    refine ⟨S1, fun y1 y2 y3 => ?_, q2, q3⟩
    simp only [b_M_piece_39, q1, Option.bind_some, m_get q2]
    rw [if_neg hy]
  obtain ⟨S1, n1, n2, n3⟩ := no 1 (by decide)
  obtain ⟨S2, p1, p2, p3⟩ := no 2 (by decide)
  have a0 : (0 : Int32).toInt = 0 := rfl
  show ∃ S' b c, e_M_piece d (some A.1) t k what S = some (b, S') ∧ _
  rcases o with ⟨nok, rfl⟩ | ⟨j, q, p, s, z, tg, hj, rfl, rfl, hq, hpc, o⟩
  · refine ⟨S1, 0, 1, ?_, n2, n3, .inr (.inl ⟨rfl, rfl⟩)⟩
    simp only [e_M_piece, b_M_piece_21]
    by_cases c : tx t
    · obtain ⟨j, hj, rfl, ej⟩ := tx_of t c
      have o1 := off_next C (t := j) (u := 16) hj
      have npl := np_le (C j) none
      simp only [(m_isText (S := S) (d := d) (by omega) (nI j)).2 j hj rfl, Option.bind_some, hwo, m_pieces h cbC (d := d) hj (by omega), n1]
      rw [if_neg (by decide)]
      by_cases c1 : k < 0
      · rw [if_pos c1]
      rw [if_neg c1]
      obtain ⟨q, hq, rfl⟩ := nI_of c1
      rw [iflt hq (by omega), if_neg]
      intro g
      refine nok ⟨c, ?_, ?_⟩
      · rw [nI_toInt hq]; omega
      · rw [ej, nI_toInt hq]; omega
    · simp only [(m_isText (S := S) (d := d) (by omega) t).1 c, Option.bind_some, n1]
      rw [if_pos trivial]
  have o1 := off_next C (t := j) (u := 16) hj
  have npl := np_le (C j) none
  obtain ⟨T1, q1, q2, q3⟩ := m_put0 h 0
  obtain ⟨i1, i2, i3, i4, i5, i6⟩ := id hpc
  have np1 : np none ((C j).take (0 + 1)) = 1 := by
    cases hL : C j with
    | nil => rw [hL] at i2; simp at i2; omega
    | cons z L => simp [np, mq]
  have hlp := mp1_loop (d := d) q2 cbC (what := what) hj hpc (by omega) xN 0 (by omega) (by unfold xN; omega)
  rw [np1] at hlp
  have hlp' : l_M_piece_62 d xN (some A.1) (nI j) what (nI q) (nI (off C j)) T1 = _ := hlp
  have hs0 : (C j)[p]? = some (s, tg) := by have := i5 0 i1; simpa using this
  have hfin : b_M_piece_131 d (some A.1) (nI j) what (nI (off C j + p)) (nI z) T1 = if what = 0 then some (nI p, T1) else if what = 1 then some (nI s, T1) else if what = 2 then some (nI z, T1) else some (tg, T1) := by
    obtain ⟨gb, gg, gs, gm, g5, g6, hx, hh, hk, hb, ho⟩ := q2
    obtain ⟨e1, e2⟩ := hh.2 j hj p _ hs0
    simp only [b_M_piece_131, b_M_piece_179, gM3 hx, gM4 hx, gM5 hx, Option.bind_some, ldA hx.2.2.1 (show j < 17 by omega) (by omega), hh.1 j (by omega), ldA hx.2.2.2.1 (show off C j + p < 4096 by omega) (by omega), ldA hx.2.2.2.2.1 (show off C j + p < 4096 by omega) (by omega), e1, e2]
    rw [pk_sub (by omega), Nat.add_sub_cancel_left]
  have head : e_M_piece d (some A.1) (nI j) (nI q) what S = if what < 0 then some (0, S2) else if what ≤ 3 then (if what = 0 then some (nI p, T1) else if what = 1 then some (nI s, T1) else if what = 2 then some (nI z, T1) else some (tg, T1)) else some (0, S2) := by
    simp only [e_M_piece, hwo, Option.bind_some, (m_isText (S := S) (d := d) (by omega) (nI j)).2 j hj rfl, m_pieces h cbC (d := d) hj (by omega), b_M_piece_34, p1]
    rw [if_neg (show ¬ (1 : Int32) = 0 by decide), if_neg (nI_pos (show q < 2 ^ 31 by omega)), iflt (by omega) (by omega), if_pos hq]
    have e1 : b_M_piece_39 d (some A.1) (nI j) (nI q) what 0 (some A.1) S = (if what = 0 then some (nI p, T1) else if what = 1 then some (nI s, T1) else if what = 2 then some (nI z, T1) else some (tg, T1)) := by
      simp only [b_M_piece_39, q1, Option.bind_some, m_get q2]
      rw [if_pos (show (0 : Int32) ≤ 0 by decide), m_beg q2 (by omega), hlp', hfin]
    rw [e1]
  rw [head]
  rcases o with ⟨rfl, rfl⟩ | ⟨rfl, rfl⟩ | ⟨rfl, rfl⟩ | ⟨rfl, rfl⟩ | ⟨h0, h1, h2, h3, rfl⟩
  · exact ⟨T1, _, 0, rfl, q2, q3, .inl ⟨_, rfl, rfl, rfl⟩⟩
  · exact ⟨T1, _, 0, rfl, q2, q3, .inl ⟨_, rfl, rfl, rfl⟩⟩
  · exact ⟨T1, _, 0, rfl, q2, q3, .inl ⟨_, rfl, rfl, rfl⟩⟩
  · exact ⟨T1, _, 0, rfl, q2, q3, .inl ⟨_, rfl, rfl, rfl⟩⟩
  · refine ⟨S2, 0, 2, ?_, p2, p3, .inr (.inr ⟨rfl, rfl⟩)⟩
    rcases what_in h0 h1 h2 h3 with g | g
    · rw [if_pos g]
    · rw [if_neg g]
      by_cases c : what < 0
      · rw [if_pos c]
      · rw [if_neg c]
theorem mf_loop (h : MI S A code C Kp nb bs) (w : WF C nb) {t : Nat} {c rr : Int32} {k : Nat} (ht : t < 16) (o : (∃ p y, k ≤ p ∧ (C t)[p]? = some y ∧ bs y.1 = c ∧ (∀ q z, k ≤ q → q < p → (C t)[q]? = some z → bs z.1 ≠ c) ∧ rr = nI p) ∨ ((∀ q z, k ≤ q → (C t)[q]? = some z → bs z.1 ≠ c) ∧ rr = -1)) : ∀ f i, k ≤ i → i ≤ (C t).length → (∀ p y, k ≤ p → (C t)[p]? = some y → bs y.1 = c → i ≤ p) → (C t).length - i < f → l_M_find_37 d f (some A.1) (nI t) c (nI (off C t + i)) S = some (rr, S) := by
  obtain ⟨w1, w2, w3, w4⟩ := id w
  intro f
  induction f with
  | zero => intro i _ _ _ h; omega
  | succ f ih =>
    intro i hk hi hmin hf
    obtain ⟨gb, gg, gs, gm, g5, g6, h, hh, hkp, hb, ho⟩ := id h
    have o1 := off_next C (t := t) (u := 16) ht
    have e : off C (t + 1) = off C t + (C t).length := rfl
    show b_M_find_37 d (l_M_find_37 d f) (some A.1) (nI t) c _ S = _
    simp only [b_M_find_37, gM3 h, gM2 h, gM4 h, Option.bind_some, nI_1, ldA h.2.2.1 (show t + 1 < 17 by omega) (by omega), ldA h.2.2.1 (show t < 17 by omega) (by omega), hh.1 (t + 1) (by omega), hh.1 t (by omega)]
    rw [ifle (by omega) (by omega)]
    by_cases c1 : off C (t + 1) ≤ off C t + i
    · rw [if_pos c1]
      rcases o with ⟨p, y, g1, g2, g3, _⟩ | ⟨_, rfl⟩
      · have := hmin p y g1 g2 g3
        have := lt_len g2
        omega
      · rfl
    · rw [if_neg c1]
      obtain ⟨y, hy⟩ : ∃ y, (C t)[i]? = some y := ⟨_, List.getElem?_eq_getElem (by omega)⟩
      obtain ⟨e1, e2⟩ := hh.2 t ht i y hy
      have hyb := w3 t ht y (List.mem_of_getElem? hy)
      simp only [ldA h.2.2.2.1 (show off C t + i < 4096 by omega) (by omega), e1, Option.bind_some, ldA h.2.1 (show y.1 < 2048 by omega) (by omega), hb _ hyb]
      by_cases c2 : bs y.1 = c
      · rw [if_pos c2, pk_sub (by omega), Nat.add_sub_cancel_left]
        rcases o with ⟨p, y', g1, g2, g3, g4, rfl⟩ | ⟨g, _⟩
        · have := hmin p y' g1 g2 g3
          have : i = p := by
            rcases Nat.lt_or_ge i p with g | g
            · exact absurd c2 (g4 i y hk g hy)
            · omega
          rw [this]
        · exact absurd c2 (g i y hk hy)
      · rw [if_neg c2]
        refine ih (i + 1) (by omega) (by omega) (fun p y' g1 g2 g3 => ?_) (by omega)
        have := hmin p y' g1 g2 g3
        by_cases e : p = i
        · subst e; rw [hy] at g2; cases g2; exact absurd g3 c2
        · omega
theorem m_find (h : MI S A code C Kp nb bs) (w : WF C nb) (hd : 20 < d) {t a c : Int32} {r : Int32 ⊕ Nat} (o : ofind C bs t a c r) :
    ∃ S' b cc, f_M_find d (some A.1) t a c S = some (b, S') ∧ MI S' A cc C Kp nb bs ∧ MFA A S S' ∧ ((∃ v, r = .inl v ∧ cc = 0 ∧ b = v) ∨ (r = .inr 2 ∧ cc = 1)) := by
  obtain ⟨d, rfl⟩ : ∃ e, d = e + 1 := ⟨d - 1, by omega⟩
  obtain ⟨w1, w2, w3, w4⟩ := id w
  have o16 : off C 16 ≤ 4096 := w1
  obtain ⟨wo, hwo⟩ := m_obj h
  show ∃ S' b cc, e_M_find d (some A.1) t a c S = some (b, S') ∧ _
  rcases o with ⟨nok, rfl⟩ | ⟨j, k, hj, rfl, rfl, hk, o⟩
  · obtain ⟨S1, q1, q2, q3⟩ := m_put0 h 1
    refine ⟨S1, 0, 1, ?_, q2, q3, .inr ⟨rfl, rfl⟩⟩
    simp only [e_M_find, hwo, Option.bind_some, (m_isPlace h (d := d) (by omega) t a).1 nok, b_M_find_15, q1, m_get q2]
    rw [if_pos trivial, if_neg (by decide)]
  · have o1 := off_next C (t := j) (u := 16) hj
    obtain ⟨T1, q1, q2, q3⟩ := m_put0 h 0
    have hpl : pl C (nI j) (nI k) := (pl_nI C hj (by omega)).mpr hk
    have head : ∀ v, l_M_find_37 d xN (some A.1) (nI j) c (nI (off C j + k)) T1 = some (v, T1) → e_M_find d (some A.1) (nI j) (nI k) c S = some (v, T1) := fun v hv => by
      simp only [e_M_find, hwo, Option.bind_some, (m_isPlace h (d := d) (by omega) (nI j) (nI k)).2 hpl, b_M_find_15, q1, m_get q2]
      rw [if_neg (show ¬ (1 : Int32) = 0 by decide), if_pos (show (0 : Int32) ≤ 0 by decide), m_beg q2 (by omega), nI_add]
      exact hv
    rcases o with ⟨p, y, g1, g2, g3, g4, rfl⟩ | ⟨g1, rfl⟩
    · exact ⟨T1, _, 0, head _ (mf_loop (d := d) q2 w hj (.inl ⟨p, y, g1, g2, g3, g4, rfl⟩) xN k (Nat.le_refl _) hk (fun _ _ g _ _ => g) (by unfold xN; omega)), q2, q3, .inl ⟨_, rfl, rfl, rfl⟩⟩
    · exact ⟨T1, _, 0, head _ (mf_loop (d := d) q2 w hj (.inr ⟨g1, rfl⟩) xN k (Nat.le_refl _) hk (fun _ _ g _ _ => g) (by unfold xN; omega)), q2, q3, .inl ⟨_, rfl, rfl, rfl⟩⟩
theorem md_loop (h : MI S A code C Kp nb bs) (w : WF C nb) {i j p : Nat} (hi : i < 16) (hj : j < 16) (hp1 : p ≤ (C i).length) (hp2 : p ≤ (C j).length) (g3 : ∀ q y z, q < p → (C i)[q]? = some y → (C j)[q]? = some z → bs y.1 = bs z.1) (g4 : ∀ y z, (C i)[p]? = some y → (C j)[p]? = some z → bs y.1 ≠ bs z.1) (hd : 1 < d) : ∀ f k, k ≤ p → p - k < f → l_M_differ_34 d f (some A.1) (nI i) (nI j) (nI k) S = some (if p < (C i).length ∨ p < (C j).length then nI p else -1, S) := by
  obtain ⟨w1, w2, w3, w4⟩ := id w
  have o16 : off C 16 ≤ 4096 := w1
  have o1 := off_next C (t := i) (u := 16) hi
  have o2 := off_next C (t := j) (u := 16) hj
  obtain ⟨v, hv⟩ := m_obj h
  have fin : b_M_differ_97 d (some A.1) (nI i) (nI j) (nI p) S = some (if p < (C i).length ∨ p < (C j).length then nI p else -1, S) := by
    simp only [b_M_differ_97, b_M_differ_115, b_M_differ_120, hv, Option.bind_some, m_size h (d := d) hi (by omega), m_size h (d := d) hj (by omega)]
    rw [iflt (by omega) (by omega), ifle (by omega) (by omega)]
    by_cases c1 : p < (C i).length
    · rw [if_pos c1, if_pos (.inl c1)]
    · rw [if_neg c1]
      by_cases c2 : (C j).length ≤ p
      · rw [if_pos c2, if_neg (by omega)]
      · rw [if_neg c2, if_pos (.inr (by omega))]
  intro f
  induction f with
  | zero => intro k _ h; omega
  | succ f ih =>
    intro k hk hf
    show b_M_differ_34 d (l_M_differ_34 d f) (some A.1) (nI i) (nI j) (nI k) S = _
    simp only [b_M_differ_34, hv, Option.bind_some, m_size h (d := d) hi (by omega), m_size h (d := d) hj (by omega)]
    rw [ifle (by omega) (by omega), ifle (by omega) (by omega)]
    by_cases c1 : (C i).length ≤ k
    · have : k = p := by omega
      rw [if_pos c1, this, fin]
    rw [if_neg c1]
    by_cases c2 : (C j).length ≤ k
    · have : k = p := by omega
      rw [if_pos c2, this, fin]
    rw [if_neg c2]
    obtain ⟨gb, gg, gs, gm, g5, g6, hx, hh, hkp, hb, ho⟩ := id h
    obtain ⟨y, hy⟩ : ∃ y, (C i)[k]? = some y := ⟨_, List.getElem?_eq_getElem (by omega)⟩
    obtain ⟨z, hz⟩ : ∃ z, (C j)[k]? = some z := ⟨_, List.getElem?_eq_getElem (by omega)⟩
    have hyb := w3 i hi y (List.mem_of_getElem? hy)
    have hzb := w3 j hj z (List.mem_of_getElem? hz)
    obtain ⟨e1, _⟩ := hh.2 i hi k y hy
    obtain ⟨e2, _⟩ := hh.2 j hj k z hz
    simp only [gM2 hx, gM3 hx, gM4 hx, Option.bind_some, ldA hx.2.2.1 (show i < 17 by omega) (by omega), ldA hx.2.2.1 (show j < 17 by omega) (by omega), hh.1 i (by omega), hh.1 j (by omega), nI_add, ldA hx.2.2.2.1 (show off C i + k < 4096 by omega) (by omega), ldA hx.2.2.2.1 (show off C j + k < 4096 by omega) (by omega), e1, e2, ldA hx.2.1 (show y.1 < 2048 by omega) (by omega), ldA hx.2.1 (show z.1 < 2048 by omega) (by omega), hb _ hyb, hb _ hzb, nI_1]
    by_cases c3 : k = p
    · subst c3
      rw [if_neg (g4 y z hy hz), fin]
    · rw [if_pos (g3 k y z (by omega) hy hz)]
      exact ih (k + 1) (by omega) (by omega)
theorem m_differ (h : MI S A code C Kp nb bs) (w : WF C nb) (hd : 20 < d) {t u : Int32} {r : Int32 ⊕ Nat} (o : odiffer C bs t u r) :
    ∃ S' b c, f_M_differ d (some A.1) t u S = some (b, S') ∧ MI S' A c C Kp nb bs ∧ MFA A S S' ∧ ((∃ v, r = .inl v ∧ c = 0 ∧ b = v) ∨ (r = .inr 2 ∧ c = 1)) := by
  obtain ⟨d, rfl⟩ : ∃ e, d = e + 1 := ⟨d - 1, by omega⟩
  obtain ⟨w1, w2, w3, w4⟩ := id w
  have o16 : off C 16 ≤ 4096 := w1
  show ∃ S' b c, e_M_differ d (some A.1) t u S = some (b, S') ∧ _
  rcases o with ⟨nok, rfl⟩ | ⟨i, j, p, hi, hj, rfl, rfl, g1, g2, g3, g4, rfl⟩
  · obtain ⟨S1, q1, q2, q3⟩ := m_put0 h 1
    refine ⟨S1, 0, 1, ?_, q2, q3, .inr ⟨rfl, rfl⟩⟩
    have fin : ∀ y1 y2, b_M_differ_20 d (some A.1) y1 y2 1 (some A.1) S = some (0, S1) := fun y1 y2 => by
      simp only [b_M_differ_20, q1, Option.bind_some, m_get q2]
      rw [if_neg (by decide)]
    simp only [e_M_differ, b_M_differ_19]
    by_cases c : tx t
    · obtain ⟨i, hi, rfl, _⟩ := tx_of t c
      simp only [(m_isText (S := S) (d := d) (by omega) (nI i)).2 i hi rfl, Option.bind_some, (m_isText (S := S) (d := d) (by omega) u).1 (fun g => nok ⟨c, g⟩), fin]
      rw [if_neg (by decide), if_pos trivial]
    · simp only [(m_isText (S := S) (d := d) (by omega) t).1 c, Option.bind_some, fin]
      rw [if_pos trivial]
  · have o1 := off_next C (t := i) (u := 16) hi
    obtain ⟨T1, q1, q2, q3⟩ := m_put0 h 0
    have hl := md_loop (d := d) q2 w hi hj g1 g2 g3 g4 (by omega) xN 0 (by omega) (by unfold xN; omega)
    have hl' : l_M_differ_34 d xN (some A.1) (nI i) (nI j) 0 T1 = _ := hl
    refine ⟨T1, _, 0, ?_, q2, q3, .inl ⟨_, rfl, rfl, rfl⟩⟩
    simp only [e_M_differ, (m_isText (S := S) (d := d) (by omega) (nI i)).2 i hi rfl, (m_isText (S := S) (d := d) (by omega) (nI j)).2 j hj rfl, Option.bind_some, b_M_differ_20, q1, m_get q2]
    rw [if_neg (by decide), if_neg (by decide), if_pos (by decide), hl']
end MR
