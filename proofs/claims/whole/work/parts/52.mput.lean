/-! THE REFERENCE'S CHANGES -/
theorem MFA.rfl' {A : MA} {S : xS} : MFA A S S := MF.rfl'
theorem MFA.trans {A : MA} {S S1 S2 : xS} (h1 : MFA A S S1) (h2 : MFA A S1 S2) : MFA A S S2 := MF.trans h1 h2
theorem pl_nI (C : Nat → List chr) {j k : Nat} (hj : j < 16) (hk : k < 2 ^ 31) : pl C (nI j) (nI k) ↔ k ≤ (C j).length := by
  unfold pl
  rw [nI_toInt (show j < 2 ^ 31 by omega), nI_toInt hk, Int.toNat_natCast]
  constructor
  · intro g; omega
  · intro g; exact ⟨by omega, by omega, by omega, by omega⟩
theorem rg_nI (C : Nat → List chr) {j k l : Nat} (hj : j < 16) (hk : k < 2 ^ 31) (hl : l < 2 ^ 31) : rg C (nI j) (nI k) (nI l) ↔ k + l ≤ (C j).length := by
  unfold rg
  rw [pl_nI C hj hk, nI_toInt (show j < 2 ^ 31 by omega), nI_toInt hk, nI_toInt hl, Int.toNat_natCast]
  constructor
  · intro g; omega
  · intro g; exact ⟨by omega, by omega, by omega⟩
section MO
variable {S : xS} {A : MA} {code : Int32} {C : Nat → List chr} {Kp : List chr} {nb d : Nat} {bs : Nat → Int32}
theorem m_put0 (h : MI S A code C Kp nb bs) (c : Int32) : ∃ S1, xput S (some A.1) 5 0 (.int c) = some S1 ∧ MI S1 A c C Kp nb bs ∧ MFA A S S1 := by
  obtain ⟨gb, gg, gs, gm, g5, g6, h, hh⟩ := h
  exact ⟨_, pM0 h c, ⟨gb, gg, gs, gm, g5, g6, h.sC c nb, hh⟩, MF.set (by simp)⟩
theorem m_get (h : MI S A code C Kp nb bs) : xgI S (some A.1) 5 0 = some code := by
  obtain ⟨gb, gg, gs, gm, g5, g6, h, hh⟩ := h
  exact gM0 h
theorem m_nb (h : MI S A code C Kp nb bs) : xgI S (some A.1) 5 1 = some (nI nb) := by
  obtain ⟨gb, gg, gs, gm, g5, g6, h, hh⟩ := h
  exact gM1 h
theorem m_obj (h : MI S A code C Kp nb bs) : ∃ w, xobj S (some A.1) 5 = some w := by
  obtain ⟨gb, gg, gs, gm, g5, g6, h, hh⟩ := h
  exact gMo h
theorem m_beg (h : MI S A code C Kp nb bs) {u : Nat} (hu : u ≤ 16) {α : Type} (F : Int32 → Option α) : ((xgR S (some A.1) 5 3).bind fun v => (xldI S v 3 (nI u)).bind F) = F (nI (off C u)) := by
  obtain ⟨gb, gg, gs, gm, g5, g6, h, hh, _⟩ := h
  simp only [gM3 h, Option.bind_some, ldA h.2.2.1 (show u < 17 by omega) (by omega), hh.1 u hu]
theorem m_thrown (h : MI S A code C Kp nb bs) (hd : 0 < d) : f_M_thrown d (some A.1) S = some (code, S) := by
  obtain ⟨d, rfl⟩ : ∃ e, d = e + 1 := ⟨d - 1, by omega⟩
  show e_M_thrown d (some A.1) S = _
  simp only [e_M_thrown, m_get h, Option.bind_some]
theorem m_raise (h : MI S A code C Kp nb bs) (hd : 0 < d) (c : Int32) : ∃ S1, f_M_raise d (some A.1) c S = some (0, S1) ∧ MI S1 A c C Kp nb bs ∧ MFA A S S1 := by
  obtain ⟨d, rfl⟩ : ∃ e, d = e + 1 := ⟨d - 1, by omega⟩
  obtain ⟨S1, q1, q2, q3⟩ := m_put0 h c
  refine ⟨S1, ?_, q2, q3⟩
  show e_M_raise d (some A.1) c S = _
  simp only [e_M_raise, q1, Option.bind_some]
theorem m_fill {q l t a : Nat} {tag : Int32} (hl : l ≤ 4096) : ∀ f k (S : xS), k ≤ l → l - k < f → MI S A code C (run q k tag) nb bs → ∃ S' f', l_M_put_73 d f (some A.1) (nI t) (nI a) (nI q) (nI l) tag (nI k) S = b_M_put_73 d (l_M_put_73 d f') (some A.1) (nI t) (nI a) (nI q) (nI l) tag (nI l) S' ∧ MI S' A code C (run q l tag) nb bs ∧ MFA A S S' := by
  intro f
  induction f with
  | zero => intro k S _ h; omega
  | succ f ih =>
    intro k S hk hf h
    by_cases c : k = l
    · subst c
      exact ⟨S, f, rfl, h, MFA.rfl'⟩
    · obtain ⟨gb, gg, gs, gm, g5, g6, h, hh, hkp, hb, ho⟩ := h
      have h1 := h.s5 (upd g5 k (nI (q + k)))
      have h2 := h1.s6 (upd g6 k tag)
      obtain ⟨S', f', q1, q2, q3⟩ := ih (k + 1) (xset (xset S A.2.2.2.2.2.1 (iarr 4096 (upd g5 k (nI (q + k))))) A.2.2.2.2.2.2 (iarr 4096 (upd g6 k tag))) (by omega) (by omega) ⟨gb, gg, gs, gm, _, _, h2, hh, fun i y hy => by
        have hi := lt_len hy
        rw [run_len] at hi
        rw [run_at hi] at hy
        cases hy
        by_cases e : i = k
        · subst e; rw [pk_us, pk_us]; exact ⟨rfl, rfl⟩
        · rw [pk_un e, pk_un e]
          exact hkp i (q + i, tag) (run_at (by omega)), hb, ho⟩
      refine ⟨S', f', ?_, q2, (MF.set (by simp)).trans ((MF.set (by simp)).trans q3)⟩
      rw [← q1]
      show b_M_put_73 d (l_M_put_73 d f) (some A.1) (nI t) (nI a) (nI q) (nI l) tag (nI k) S = _
      simp only [b_M_put_73]
      rw [ifle (by omega) (by omega), if_neg (by omega)]
      simp only [gM6 h, Option.bind_some, nI_add, stA h.2.2.2.2.2.1 (show k < 4096 by omega) (by omega), gM7 h1, stA h1.2.2.2.2.2.2.1 (show k < 4096 by omega) (by omega), nI_1]
theorem ins_rem {L K : List chr} {a n : Nat} (ha : a ≤ L.length) (hn : K.length = n) : (L.take a ++ (K ++ L.drop a)).take a ++ (L.take a ++ (K ++ L.drop a)).drop (a + n) = L := by
  have e1 : (L.take a).length = a := by rw [List.length_take]; omega
  rw [List.take_append_of_le_length (by omega), List.take_of_length_le (by omega), List.drop_append, List.drop_of_length_le (by omega), e1, Nat.add_sub_cancel_left, List.drop_append, List.drop_of_length_le (by omega), hn, Nat.sub_self, List.drop_zero, List.nil_append, List.nil_append, List.take_append_drop]
theorem va_up_back (C : Nat → List chr) (t : Nat) (L M : List chr) (h : M = C t) : va_up (va_up C t L) t M = C := by
  funext u
  by_cases e : u = t
  · subst e; rw [va_up_self, h]
  · rw [va_up_ne _ _ e, va_up_ne _ _ e]
theorem m_put (h : MI S A code C Kp nb bs) (w : WF C nb) (hd : 20 < d) {t a f n tag : Int32} {r : Int32 ⊕ Nat} {D : Nat → List chr} (o : oput C nb t a f n tag r D) :
    ∃ S' b c Kp', f_M_put d (some A.1) t a f n tag S = some (b, S') ∧ MI S' A c D Kp' nb bs ∧ MFA A S S' ∧ ((∃ v, r = .inl v ∧ c = 0 ∧ b = v) ∨ (r = .inr 2 ∧ c = 1) ∨ (r = .inr 1 ∧ c = 2)) := by
  obtain ⟨d, rfl⟩ : ∃ e, d = e + 1 := ⟨d - 1, by omega⟩
  obtain ⟨w1, w2, w3, w4⟩ := id w
  obtain ⟨wo, hwo⟩ := m_obj h
  show ∃ S' b c Kp', e_M_put d (some A.1) t a f n tag S = some (b, S') ∧ _
  have a0 : (0 : Int32).toInt = 0 := rfl
  rcases o with ⟨nok, rfl, rfl⟩ | ⟨j, k, q, l, hj, rfl, rfl, rfl, rfl, hk, hl, hql, o⟩
  · obtain ⟨S1, q1, q2, q3⟩ := m_put0 h 1
    refine ⟨S1, 0, 1, Kp, ?_, q2, q3, .inr (.inl ⟨rfl, rfl⟩)⟩
    have fin : ∀ y1 y2 y3 y4 y5, b_M_put_31 d (some A.1) y1 y2 y3 y4 y5 (some A.1) S = some (0, S1) := by
      intro y1 y2 y3 y4 y5
      simp only [b_M_put_31, b_M_put_36, q1, Option.bind_some, m_get q2]
      rw [if_neg (by decide)]
    simp only [e_M_put, hwo, Option.bind_some]
    by_cases c : pl D t a
    · simp only [(m_isPlace h (d := d) (by omega) t a).2 c, Option.bind_some, fin, m_nb h]
      rw [if_neg (by decide)]
      by_cases c1 : f < 0
      · rw [if_pos c1]
      rw [if_neg c1]
      by_cases c2 : n < 1
      · rw [if_pos c2]
      rw [if_neg c2]
      have c1' : ¬ f.toInt < 0 := fun g => c1 (by rw [Int32.lt_iff_toInt_lt]; exact g)
      have c2' : ¬ n.toInt < 1 := fun g => c2 (by rw [Int32.lt_iff_toInt_lt]; exact g)
      have c3 : ¬ f ≤ nI nb - n := by
        obtain ⟨q', hq', rfl⟩ := nI_of (x := n) (by rw [Int32.lt_iff_toInt_lt]; show ¬ n.toInt < 0; omega)
        rw [Int32.le_iff_toInt_le, pk_sub31 (by omega) hq']
        intro g
        rw [nI_toInt hq'] at nok c2'
        exact nok ⟨c, by omega, by omega, by omega⟩
      rw [if_neg c3]
    · simp only [(m_isPlace h (d := d) (by omega) t a).1 c, Option.bind_some, fin]
      exact if_pos trivial
  · have o1 := off_next C (t := j) (u := 16) hj
    have o16 : off C 16 ≤ 4096 := w1
    have hpl : pl C (nI j) (nI k) := (pl_nI C hj (by omega)).mpr hk
    obtain ⟨S1, q1, q2, q3⟩ := m_put0 h 0
    obtain ⟨w1', hw1'⟩ := m_obj q2
    have head : e_M_put d (some A.1) (nI j) (nI k) (nI q) (nI l) tag S = if l ≤ 4096 - off C 16 then l_M_put_73 d xN (some A.1) (nI j) (nI k) (nI q) (nI l) tag (nI 0) S1 else (f_M_raise d (some A.1) 2 S1).bind fun q5 => some (q5.1, q5.2) := by
      simp only [e_M_put, hwo, Option.bind_some, (m_isPlace h (d := d) (by omega) (nI j) (nI k)).2 hpl, m_nb h, b_M_put_36, q1, m_get q2]
      rw [if_neg (show ¬ (1 : Int32) = 0 by decide), if_neg (nI_pos (show q < 2 ^ 31 by omega)), if_neg (show ¬ nI l < 1 from nI_nlt (b := 1) hl (by omega)), pk_sub (by omega), ifle (by omega) (by omega), if_pos (by omega), if_pos (show (0 : Int32) ≤ 0 by decide)]
      rw [show (16 : Int32) = nI 16 from rfl, m_beg q2 (by omega), show (4096 : Int32) = nI 4096 from rfl, pk_sub (by omega), ifle (by omega) (by omega)]
      simp only [hw1', Option.bind_some]
      rfl
    rw [head]
    by_cases c1 : l ≤ 4096 - off C 16
    · rw [if_pos c1]
      have q2' : MI S1 A 0 C (run q 0 tag) nb bs := by
        obtain ⟨gb, gg, gs, gm, g5, g6, hx, hh, hkp, hb, ho⟩ := q2
        exact ⟨gb, gg, gs, gm, g5, g6, hx, hh, fun i y hy => by rw [run_zero] at hy; simp at hy, hb, ho⟩
      obtain ⟨S2, f', p1, p2, p3⟩ := m_fill (d := d) (q := q) (l := l) (t := j) (a := k) (tag := tag) (by omega) xN 0 S1 (by omega) (by unfold xN; omega) q2'
      rw [p1]
      obtain ⟨w2', hw2'⟩ := m_obj p2
      obtain ⟨S3, r1, r2, r3⟩ := m_insert (d := d) p2 (n := l) (run_len q l tag) hj hk (by omega) (by omega)
      obtain ⟨w3', hw3'⟩ := m_obj r2
      have cbD : ∀ t, t < 16 → ∀ c ∈ va_up C j ((C j).take k ++ (run q l tag ++ (C j).drop k)) t, c.1 < 4096 := fun t ht c hc => by
        by_cases e : t = j
        · subst e
          rw [va_up_self, List.mem_append, List.mem_append] at hc
          rcases hc with g | g | g
          · have := w3 t ht c (List.mem_of_mem_take g); omega
          · obtain ⟨i, hi, rfl⟩ := run_mem g
            show q + i < 4096; omega
          · have := w3 t ht c (List.mem_of_mem_drop g); omega
        · rw [va_up_ne _ _ e] at hc
          have := w3 t ht c hc; omega
      have hnp1 := sm_np1 C hj ((C j).take k ++ (run q l tag ++ (C j).drop k))
      have npl := np_le ((C j).take k ++ (run q l tag ++ (C j).drop k)) none
      have hLn : ((C j).take k ++ (run q l tag ++ (C j).drop k)).length = (C j).length + l := by
        simp only [List.length_append, List.length_take, List.length_drop, run_len]; omega
      simp only [b_M_put_73, if_pos (show nI l ≤ nI l from nI_le (Nat.le_refl _) (by omega)), hw2', Option.bind_some, r1, hw3', m_all r2 cbD (d := d) (by omega)]
      rw [show (1024 : Int32) = nI 1024 from rfl, iflt (by omega) (by omega)]
      by_cases c2 : 1024 < sm (fun t => np none (va_up C j ((C j).take k ++ (run q l tag ++ (C j).drop k)) t)) 16
      · rw [if_pos c2]
        rcases o with ⟨_, rfl, rfl⟩ | ⟨_, g2, _⟩
        · obtain ⟨S4, u1, u2, u3⟩ := m_remove (d := d) r2 (t := j) (a := k) (n := l) hj (by rw [va_up_self, hLn]; omega) (by omega)
          rw [va_up_self, va_up_back _ _ _ _ (ins_rem hk (run_len q l tag))] at u2
          obtain ⟨w4', hw4'⟩ := m_obj u2
          obtain ⟨S5, v1, v2, v3⟩ := m_raise (d := d) u2 (by omega) 2
          simp only [u1, Option.bind_some, hw4', v1]
          exact ⟨S5, 0, 2, _, rfl, v2, q3.trans (p3.trans (r3.trans (u3.trans v3))), by simp⟩
        · omega
      · rw [if_neg c2]
        rcases o with ⟨g, _⟩ | ⟨_, _, rfl, rfl⟩
        · exact absurd ⟨by show off C 16 + l ≤ 4096; omega, by omega⟩ g
        · simp only [m_size r2 (d := d) hj (by omega), Option.bind_some]
          exact ⟨S3, _, 0, _, rfl, r2, q3.trans (p3.trans r3), .inl ⟨_, rfl, rfl, rfl⟩⟩
    · rw [if_neg c1]
      rcases o with ⟨_, rfl, rfl⟩ | ⟨g1, _⟩
      · obtain ⟨S5, v1, v2, v3⟩ := m_raise (d := d) q2 (by omega) 2
        simp only [v1, Option.bind_some]
        exact ⟨S5, 0, 2, _, rfl, v2, q3.trans v3, by simp⟩
      · exfalso
        have : off C 16 + l ≤ 4096 := g1
        omega
end MO
