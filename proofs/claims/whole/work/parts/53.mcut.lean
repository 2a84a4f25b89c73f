/-! THE REFERENCE: CUT, PASTE, COPY, TAG, WIPE -/
theorem va_up_comm (C : Nat → List chr) {i j : Nat} (h : i ≠ j) (L M : List chr) : va_up (va_up C i L) j M = va_up (va_up C j M) i L := by
  funext u
  by_cases e : u = j
  · subst e; rw [va_up_self, va_up_ne _ _ (Ne.symm h), va_up_self]
  · rw [va_up_ne _ _ e]
    by_cases e2 : u = i
    · subst e2; rw [va_up_self, va_up_self]
    · rw [va_up_ne _ _ e2, va_up_ne _ _ e2, va_up_ne _ _ e]
theorem rng_all (L : List chr) : rng L 0 (0 + L.length) = L := by
  unfold rng
  rw [Nat.zero_add, List.take_of_length_le (Nat.le_refl _), List.drop_zero]
theorem rem_all (L : List chr) : L.take 0 ++ L.drop (0 + L.length) = [] := by
  rw [Nat.zero_add, List.drop_of_length_le (Nat.le_refl _)]; rfl
theorem ins_all (K : List chr) : ([] : List chr).take 0 ++ (K ++ ([] : List chr).drop 0) = K := by simp
theorem cut_back (L : List chr) {a n : Nat} (h : a + n ≤ L.length) : (L.take a ++ L.drop (a + n)).take a ++ (rng L a (a + n) ++ (L.take a ++ L.drop (a + n)).drop a) = L := by
  have e1 : (L.take a).length = a := by rw [List.length_take]; omega
  rw [List.take_append_of_le_length (by omega), List.take_of_length_le (by omega), List.drop_append, List.drop_of_length_le (by omega), e1, Nat.sub_self, List.drop_zero, List.nil_append]
  rw [← List.append_assoc, ← rng_take L (b := a) (c := a + n) (by omega), List.take_append_drop]
theorem rng_ins {L K : List chr} {a n : Nat} (ha : a ≤ L.length) (hn : K.length = n) : rng (L.take a ++ (K ++ L.drop a)) a (a + n) = K := by
  have e1 : (L.take a).length = a := by rw [List.length_take]; omega
  unfold rng
  rw [List.take_append, e1, List.take_of_length_le (by omega), Nat.add_sub_cancel_left, List.drop_append, e1, List.drop_of_length_le (by omega), Nat.sub_self, List.drop_zero, List.nil_append, List.take_append_of_le_length (by omega), List.take_of_length_le (by omega)]
section MO2
variable {S : xS} {A : MA} {code : Int32} {C : Nat → List chr} {Kp : List chr} {nb d : Nat} {bs : Nat → Int32}
theorem up_cb {D : Nat → List chr} {j : Nat} {L : List chr} (h1 : ∀ t, t < 16 → ∀ c ∈ D t, c.1 < 4096) (h2 : ∀ c ∈ L, c.1 < 4096) : ∀ t, t < 16 → ∀ c ∈ va_up D j L t, c.1 < 4096 := fun t ht c hc => by
  by_cases e : t = j
  · subst e; rw [va_up_self] at hc; exact h2 c hc
  · rw [va_up_ne _ _ e] at hc; exact h1 t ht c hc
theorem m_cut (h : MI S A code C Kp nb bs) (w : WF C nb) (hd : 20 < d) {t a n into : Int32} {r : Int32 ⊕ Nat} {D : Nat → List chr} (o : ocut C t a n into r D) :
    ∃ S' b c Kp', f_M_cut d (some A.1) t a n into S = some (b, S') ∧ MI S' A c D Kp' nb bs ∧ MFA A S S' ∧ ((∃ v, r = .inl v ∧ c = 0 ∧ b = v) ∨ (r = .inr 2 ∧ c = 1) ∨ (r = .inr 0 ∧ c = 2) ∨ (r = .inr 1 ∧ c = 3)) := by
  obtain ⟨d, rfl⟩ : ∃ e, d = e + 1 := ⟨d - 1, by omega⟩
  obtain ⟨w1, w2, w3, w4⟩ := id w
  have cbC : ∀ t, t < 16 → ∀ c ∈ C t, c.1 < 4096 := fun t ht c hc => by have := w3 t ht c hc; omega
  obtain ⟨wo, hwo⟩ := m_obj h
  have no : ∀ y : Int32, ¬ y ≤ 0 → ∃ S1, (∀ y1 y2 y3 y4, b_M_cut_43 d (some A.1) y1 y2 y3 y4 y (some A.1) S = some (0, S1)) ∧ MI S1 A y C Kp nb bs ∧ MFA A S S1 := fun y hy => by
    obtain ⟨S1, q1, q2, q3⟩ := m_put0 h y
    refine ⟨S1, fun y1 y2 y3 y4 => ?_, q2, q3⟩
    simp only [b_M_cut_43, q1, Option.bind_some, m_get q2]
    rw [if_neg hy]
  obtain ⟨S1, n1, n2, n3⟩ := no 1 (by decide)
  obtain ⟨S2, p1, p2, p3⟩ := no 2 (by decide)
  show ∃ S' b c Kp', e_M_cut d (some A.1) t a n into S = some (b, S') ∧ _
  rcases o with ⟨nok, rfl, rfl⟩ | ⟨j, k, l, i, hj, hi, rfl, rfl, rfl, rfl, hkl, o⟩
  · refine ⟨S1, 0, 1, Kp, ?_, n2, n3, .inr (.inl ⟨rfl, rfl⟩)⟩
    simp only [e_M_cut, hwo, Option.bind_some, b_M_cut_19, n1]
    by_cases c : rg D t a n
    · simp only [(m_isRange h (d := d) (by omega) t a n).2 c, Option.bind_some, (m_isText (S := S) (d := d) (by omega) into).1 (fun g => nok ⟨c, g⟩)]
      rw [if_neg (by decide)]
      rw [if_pos trivial, n1]
    · simp only [(m_isRange h (d := d) (by omega) t a n).1 c, Option.bind_some]
      rw [if_pos trivial, n1]
  have o1 := off_next C (t := j) (u := 16) hj
  have o2 := off_next C (t := i) (u := 16) hi
  have o16 : off C 16 ≤ 4096 := w1
  have hrg : rg C (nI j) (nI k) (nI l) := (rg_nI C hj (by omega) (by omega)).mpr hkl
  have head : e_M_cut d (some A.1) (nI j) (nI k) (nI l) (nI i) S = if i = j then some (0, S2) else if (C i).length ≤ 0 then b_M_cut_43 d (some A.1) (nI j) (nI k) (nI l) (nI i) 0 (some A.1) S else some (0, S2) := by
    simp only [e_M_cut, hwo, Option.bind_some, (m_isRange h (d := d) (by omega) (nI j) (nI k) (nI l)).2 hrg, (m_isText (S := S) (d := d) (by omega) (nI i)).2 i hi rfl, m_size h (d := d) hi (by omega), b_M_cut_38, p1]
    rw [if_neg (show ¬ (1 : Int32) = 0 by decide), if_neg (show ¬ (1 : Int32) = 0 by decide), ifeq (by omega) (by omega), show (0 : Int32) = nI 0 from rfl, ifle (by omega) (by omega)]
  rw [head]
  rcases o with ⟨c, rfl, hD⟩ | ⟨hij, hCi, o⟩
  · have hD := hD.symm
    subst hD
    refine ⟨S2, 0, 2, Kp, ?_, p2, p3, .inr (.inr (.inl ⟨rfl, rfl⟩))⟩
    by_cases e : i = j
    · rw [if_pos e]
    · rw [if_neg e, if_neg]
      rcases c with c | c
      · exact absurd c e
      · intro g
        exact c (List.eq_nil_of_length_eq_zero (by omega))
  rw [if_neg hij, if_pos (by rw [hCi]; exact Nat.le_refl 0)]
  obtain ⟨T1, q1, q2, q3⟩ := m_put0 h 0
  obtain ⟨v1, hv1⟩ := m_obj q2
  obtain ⟨T2, r1, r2, r3⟩ := m_keep (d := d) q2 (t := j) (a := k) (n := l) hj hkl (by omega)
  obtain ⟨v2, hv2⟩ := m_obj r2
  obtain ⟨T3, s1, s2, s3⟩ := m_remove (d := d) r2 (t := j) (a := k) (n := l) hj hkl (by omega)
  obtain ⟨v3, hv3⟩ := m_obj s2
  have hLr : (rng (C j) k (k + l)).length = l := by rw [rng_len hkl]; omega
  have hLc : ((C j).take k ++ (C j).drop (k + l)).length = (C j).length - l := by
    simp only [List.length_append, List.length_take, List.length_drop]; omega
  have oh := off_hi C ((C j).take k ++ (C j).drop (k + l)) (show j < 16 by omega)
  obtain ⟨T4, t1, t2, t3⟩ := m_insert (d := d) s2 (t := i) (a := 0) (n := l) hLr hi (by omega) (by omega) (by omega)
  rw [va_up_ne _ _ hij, hCi, ins_all, ← va_up_comm C hij] at t2
  have t1' : f_M_insert d (some A.1) (nI i) 0 (nI l) T3 = some ((), T4) := t1
  obtain ⟨v4, hv4⟩ := m_obj t2
  have rngb : ∀ c ∈ rng (C j) k (k + l), c.1 < 4096 := fun c hc => by
    unfold rng at hc
    exact cbC j hj c (List.mem_of_mem_take (List.mem_of_mem_drop hc))
  have cbD := up_cb (up_cb (j := i) cbC rngb) (j := j) (L := (C j).take k ++ (C j).drop (k + l)) fun c hc => by
    rcases List.mem_append.mp hc with g | g
    · exact cbC j hj c (List.mem_of_mem_take g)
    · exact cbC j hj c (List.mem_of_mem_drop g)
  have hnp := sm_np2 C hi hj hij (rng (C j) k (k + l)) ((C j).take k ++ (C j).drop (k + l))
  have npA := np_le ((C j).take k ++ (C j).drop (k + l)) none
  have npB := np_le (rng (C j) k (k + l)) none
  simp only [b_M_cut_43, q1, Option.bind_some, m_get q2, hv1, r1, hv2, s1, hv3, t1', hv4, m_all t2 cbD (d := d) (by omega)]
  rw [if_pos (show (0 : Int32) ≤ 0 by decide), show (1024 : Int32) = nI 1024 from rfl, iflt (by omega) (by omega)]
  by_cases c2 : 1024 < sm (fun t => np none (va_up (va_up C i (rng (C j) k (k + l))) j ((C j).take k ++ (C j).drop (k + l)) t)) 16
  · rw [if_pos c2]
    rcases o with ⟨_, rfl, hD⟩ | ⟨g2, _⟩
    · have hD := hD.symm
      subst hD
      have Di : va_up (va_up C i (rng (C j) k (k + l))) j ((C j).take k ++ (C j).drop (k + l)) i = rng (C j) k (k + l) := by rw [va_up_ne _ _ hij, va_up_self]
      obtain ⟨T5, a1, a2, a3⟩ := m_keep (d := d) t2 (t := i) (a := 0) (n := l) hi (by rw [Di]; omega) (by omega)
      have a1' : f_M_keep d (some A.1) (nI i) 0 (nI l) T4 = some ((), T5) := a1
      obtain ⟨v5, hv5⟩ := m_obj a2
      obtain ⟨T6, b1, b2, b3⟩ := m_remove (d := d) a2 (t := i) (a := 0) (n := l) hi (by rw [Di]; omega) (by omega)
      have b1' : f_M_remove d (some A.1) (nI i) 0 (nI l) T5 = some ((), T6) := b1
      have eK : rng (rng (C j) k (k + l)) 0 (0 + l) = rng (C j) k (k + l) := by
        have := rng_all (rng (C j) k (k + l))
        rw [hLr] at this; exact this
      have eR : (rng (C j) k (k + l)).take 0 ++ (rng (C j) k (k + l)).drop (0 + l) = [] := by
        have := rem_all (rng (C j) k (k + l))
        rw [hLr] at this; exact this
      rw [Di, eK, eR, va_up_comm C hij, va_up_back _ i _ [] (by rw [va_up_ne _ _ hij, hCi])] at b2
      obtain ⟨v6, hv6⟩ := m_obj b2
      obtain ⟨T7, c1', c2', c3'⟩ := m_insert (d := d) b2 (t := j) (a := k) (n := l) hLr hj (by rw [va_up_self, hLc]; omega) (by omega) (by omega)
      rw [va_up_self, cut_back (C j) hkl, va_up_back _ _ _ _ rfl] at c2'
      obtain ⟨v7, hv7⟩ := m_obj c2'
      obtain ⟨T8, d1, d2, d3⟩ := m_raise (d := d) c2' (by omega) 3
      simp only [a1', Option.bind_some, hv5, b1', hv6, c1', hv7, d1]
      exact ⟨T8, 0, 3, _, rfl, d2, q3.trans (r3.trans (s3.trans (t3.trans (a3.trans (b3.trans (c3'.trans d3)))))), by simp⟩
    · omega
  · rw [if_neg c2]
    rcases o with ⟨g, _⟩ | ⟨_, rfl, rfl⟩
    · omega
    · simp only [m_size t2 (d := d) hj (by omega), Option.bind_some]
      exact ⟨T4, _, 0, _, rfl, t2, q3.trans (r3.trans (s3.trans t3)), .inl ⟨_, rfl, rfl, rfl⟩⟩
theorem m_paste (h : MI S A code C Kp nb bs) (w : WF C nb) (hd : 20 < d) {t a other : Int32} {r : Int32 ⊕ Nat} {D : Nat → List chr} (o : opaste C t a other r D) :
    ∃ S' b c Kp', f_M_paste d (some A.1) t a other S = some (b, S') ∧ MI S' A c D Kp' nb bs ∧ MFA A S S' ∧ ((∃ v, r = .inl v ∧ c = 0 ∧ b = v) ∨ (r = .inr 2 ∧ c = 1) ∨ (r = .inr 0 ∧ c = 2) ∨ (r = .inr 1 ∧ c = 3)) := by
  obtain ⟨d, rfl⟩ : ∃ e, d = e + 1 := ⟨d - 1, by omega⟩
  obtain ⟨w1, w2, w3, w4⟩ := id w
  have cbC : ∀ t, t < 16 → ∀ c ∈ C t, c.1 < 4096 := fun t ht c hc => by have := w3 t ht c hc; omega
  obtain ⟨wo, hwo⟩ := m_obj h
  have no : ∀ y : Int32, ¬ y ≤ 0 → ∃ S1, (∀ y1 y2 y3, b_M_paste_31 d (some A.1) y1 y2 y3 y (some A.1) S = some (0, S1)) ∧ MI S1 A y C Kp nb bs ∧ MFA A S S1 := fun y hy => by
    obtain ⟨S1, q1, q2, q3⟩ := m_put0 h y
    refine ⟨S1, fun y1 y2 y3 => ?_, q2, q3⟩
    simp only [b_M_paste_31, q1, Option.bind_some, m_get q2]
    rw [if_neg hy]
  obtain ⟨S1, n1, n2, n3⟩ := no 1 (by decide)
  obtain ⟨S2, p1, p2, p3⟩ := no 2 (by decide)
  show ∃ S' b c Kp', e_M_paste d (some A.1) t a other S = some (b, S') ∧ _
  rcases o with ⟨nok, rfl, rfl⟩ | ⟨j, k, i, hj, hi, rfl, rfl, rfl, hk, o⟩
  · refine ⟨S1, 0, 1, Kp, ?_, n2, n3, .inr (.inl ⟨rfl, rfl⟩)⟩
    simp only [e_M_paste, hwo, Option.bind_some, b_M_paste_17, n1]
    by_cases c : pl D t a
    · simp only [(m_isPlace h (d := d) (by omega) t a).2 c, Option.bind_some, (m_isText (S := S) (d := d) (by omega) other).1 (fun g => nok ⟨c, g⟩)]
      rw [if_neg (by decide)]
      rw [if_pos trivial, n1]
    · simp only [(m_isPlace h (d := d) (by omega) t a).1 c, Option.bind_some]
      rw [if_pos trivial, n1]
  have o1 := off_next C (t := j) (u := 16) hj
  have o2 := off_next C (t := i) (u := 16) hi
  have o16 : off C 16 ≤ 4096 := w1
  have hpl : pl C (nI j) (nI k) := (pl_nI C hj (by omega)).mpr hk
  have head : e_M_paste d (some A.1) (nI j) (nI k) (nI i) S = if i = j then some (0, S2) else b_M_paste_31 d (some A.1) (nI j) (nI k) (nI i) 0 (some A.1) S := by
    simp only [e_M_paste, hwo, Option.bind_some, (m_isPlace h (d := d) (by omega) (nI j) (nI k)).2 hpl, (m_isText (S := S) (d := d) (by omega) (nI i)).2 i hi rfl, p1]
    rw [if_neg (show ¬ (1 : Int32) = 0 by decide), if_neg (show ¬ (1 : Int32) = 0 by decide), ifeq (by omega) (by omega)]
  rw [head]
  rcases o with ⟨c, rfl, hD⟩ | ⟨hij, o⟩
  · have hD := hD.symm
    subst hD
    exact ⟨S2, 0, 2, Kp, by rw [if_pos c], p2, p3, .inr (.inr (.inl ⟨rfl, rfl⟩))⟩
  rw [if_neg hij]
  obtain ⟨T1, q1, q2, q3⟩ := m_put0 h 0
  obtain ⟨v1, hv1⟩ := m_obj q2
  obtain ⟨T2, r1, r2, r3⟩ := m_keep (d := d) q2 (t := i) (a := 0) (n := (C i).length) hi (by omega) (by omega)
  have r1' : f_M_keep d (some A.1) (nI i) 0 (nI (C i).length) T1 = some ((), T2) := r1
  rw [rng_all] at r2
  obtain ⟨v2, hv2⟩ := m_obj r2
  obtain ⟨T3, s1, s2, s3⟩ := m_remove (d := d) r2 (t := i) (a := 0) (n := (C i).length) hi (by omega) (by omega)
  have s1' : f_M_remove d (some A.1) (nI i) 0 (nI (C i).length) T2 = some ((), T3) := s1
  rw [rem_all] at s2
  obtain ⟨v3, hv3⟩ := m_obj s2
  have oh := off_hi C [] (show i < 16 by omega)
  simp only [List.length_nil] at oh
  obtain ⟨T4, t1, t2, t3⟩ := m_insert (d := d) s2 (t := j) (a := k) (n := (C i).length) rfl hj (by rw [va_up_ne _ _ (Ne.symm hij)]; omega) (by omega) (by omega)
  rw [va_up_ne _ _ (Ne.symm hij)] at t2
  obtain ⟨v4, hv4⟩ := m_obj t2
  have cbD := up_cb (up_cb cbC (j := i) (L := []) (fun c hc => nomatch hc)) (j := j) (L := (C j).take k ++ (C i ++ (C j).drop k)) fun c hc => by
    rw [List.mem_append, List.mem_append] at hc
    rcases hc with g | g | g
    · exact cbC j hj c (List.mem_of_mem_take g)
    · exact cbC i hi c g
    · exact cbC j hj c (List.mem_of_mem_drop g)
  have hnp := sm_np2 C hi hj hij [] ((C j).take k ++ (C i ++ (C j).drop k))
  have npA := np_le ((C j).take k ++ (C i ++ (C j).drop k)) none
  have hLA : ((C j).take k ++ (C i ++ (C j).drop k)).length = (C j).length + (C i).length := by
    simp only [List.length_append, List.length_take, List.length_drop]; omega
  simp only [np] at hnp
  simp only [b_M_paste_31, q1, Option.bind_some, m_get q2, hv1, m_size q2 (d := d) hi (by omega), r1', hv2, s1', hv3, t1, hv4, m_all t2 cbD (d := d) (by omega)]
  rw [if_pos (show (0 : Int32) ≤ 0 by decide), show (1024 : Int32) = nI 1024 from rfl, iflt (by omega) (by omega)]
  by_cases c2 : 1024 < sm (fun t => np none (va_up (va_up C i []) j ((C j).take k ++ (C i ++ (C j).drop k)) t)) 16
  · rw [if_pos c2]
    rcases o with ⟨_, rfl, hD⟩ | ⟨g2, _⟩
    · have hD := hD.symm
      subst hD
      obtain ⟨T5, a1, a2, a3⟩ := m_keep (d := d) t2 (t := j) (a := k) (n := (C i).length) hj (by rw [va_up_self, hLA]; omega) (by omega)
      rw [va_up_self, rng_ins hk rfl] at a2
      obtain ⟨v5, hv5⟩ := m_obj a2
      obtain ⟨T6, b1, b2, b3⟩ := m_remove (d := d) a2 (t := j) (a := k) (n := (C i).length) hj (by rw [va_up_self, hLA]; omega) (by omega)
      rw [va_up_self, ins_rem hk rfl, va_up_back _ j _ _ (by rw [va_up_ne _ _ (Ne.symm hij)])] at b2
      obtain ⟨v6, hv6⟩ := m_obj b2
      obtain ⟨T7, c1', c2', c3'⟩ := m_insert (d := d) b2 (t := i) (a := 0) (n := (C i).length) rfl hi (by omega) (by omega) (by omega)
      have c1'' : f_M_insert d (some A.1) (nI i) 0 (nI (C i).length) T6 = some ((), T7) := c1'
      rw [va_up_self, ins_all, va_up_back _ _ _ _ rfl] at c2'
      obtain ⟨v7, hv7⟩ := m_obj c2'
      obtain ⟨T8, d1, d2, d3⟩ := m_raise (d := d) c2' (by omega) 3
      simp only [a1, Option.bind_some, hv5, b1, hv6, c1'', hv7, d1]
      exact ⟨T8, 0, 3, _, rfl, d2, q3.trans (r3.trans (s3.trans (t3.trans (a3.trans (b3.trans (c3'.trans d3)))))), by simp⟩
    · omega
  · rw [if_neg c2]
    rcases o with ⟨g, _⟩ | ⟨_, rfl, rfl⟩
    · omega
    · simp only [m_size t2 (d := d) hj (by omega), Option.bind_some]
      exact ⟨T4, _, 0, _, rfl, t2, q3.trans (r3.trans (s3.trans t3)), .inl ⟨_, rfl, rfl, rfl⟩⟩
theorem m_copy (h : MI S A code C Kp nb bs) (w : WF C nb) (hd : 20 < d) {t a n into : Int32} {r : Int32 ⊕ Nat} {D : Nat → List chr} (o : ocopy C t a n into r D) :
    ∃ S' b c Kp', f_M_copy d (some A.1) t a n into S = some (b, S') ∧ MI S' A c D Kp' nb bs ∧ MFA A S S' ∧ ((∃ v, r = .inl v ∧ c = 0 ∧ b = v) ∨ (r = .inr 2 ∧ c = 1) ∨ (r = .inr 0 ∧ c = 2) ∨ (r = .inr 1 ∧ c = 3)) := by
  obtain ⟨d, rfl⟩ : ∃ e, d = e + 1 := ⟨d - 1, by omega⟩
  obtain ⟨w1, w2, w3, w4⟩ := id w
  have cbC : ∀ t, t < 16 → ∀ c ∈ C t, c.1 < 4096 := fun t ht c hc => by have := w3 t ht c hc; omega
  obtain ⟨wo, hwo⟩ := m_obj h
  have no : ∀ y : Int32, ¬ y ≤ 0 → ∃ S1, (∀ y1 y2 y3 y4, b_M_copy_43 d (some A.1) y1 y2 y3 y4 y (some A.1) S = some (0, S1)) ∧ MI S1 A y C Kp nb bs ∧ MFA A S S1 := fun y hy => by
    obtain ⟨S1, q1, q2, q3⟩ := m_put0 h y
    refine ⟨S1, fun y1 y2 y3 y4 => ?_, q2, q3⟩
    simp only [b_M_copy_43, q1, Option.bind_some, m_get q2]
    rw [if_neg hy]
  obtain ⟨S1, n1, n2, n3⟩ := no 1 (by decide)
  obtain ⟨S2, p1, p2, p3⟩ := no 2 (by decide)
  show ∃ S' b c Kp', e_M_copy d (some A.1) t a n into S = some (b, S') ∧ _
  rcases o with ⟨nok, rfl, rfl⟩ | ⟨j, k, l, i, hj, hi, rfl, rfl, rfl, rfl, hkl, o⟩
  · refine ⟨S1, 0, 1, Kp, ?_, n2, n3, .inr (.inl ⟨rfl, rfl⟩)⟩
    simp only [e_M_copy, hwo, Option.bind_some, b_M_copy_19, n1]
    by_cases c : rg D t a n
    · simp only [(m_isRange h (d := d) (by omega) t a n).2 c, Option.bind_some, (m_isText (S := S) (d := d) (by omega) into).1 (fun g => nok ⟨c, g⟩)]
      rw [if_neg (by decide)]
      rw [if_pos trivial, n1]
    · simp only [(m_isRange h (d := d) (by omega) t a n).1 c, Option.bind_some]
      rw [if_pos trivial, n1]
  have o1 := off_next C (t := j) (u := 16) hj
  have o2 := off_next C (t := i) (u := 16) hi
  have o16 : off C 16 ≤ 4096 := w1
  have hrg : rg C (nI j) (nI k) (nI l) := (rg_nI C hj (by omega) (by omega)).mpr hkl
  have head : e_M_copy d (some A.1) (nI j) (nI k) (nI l) (nI i) S = if i = j then some (0, S2) else if (C i).length ≤ 0 then b_M_copy_43 d (some A.1) (nI j) (nI k) (nI l) (nI i) 0 (some A.1) S else some (0, S2) := by
    simp only [e_M_copy, hwo, Option.bind_some, (m_isRange h (d := d) (by omega) (nI j) (nI k) (nI l)).2 hrg, (m_isText (S := S) (d := d) (by omega) (nI i)).2 i hi rfl, m_size h (d := d) hi (by omega), b_M_copy_38, p1]
    rw [if_neg (show ¬ (1 : Int32) = 0 by decide), if_neg (show ¬ (1 : Int32) = 0 by decide), ifeq (by omega) (by omega), show (0 : Int32) = nI 0 from rfl, ifle (by omega) (by omega)]
  rw [head]
  rcases o with ⟨c, rfl, hD⟩ | ⟨hij, hCi, o⟩
  · have hD := hD.symm
    subst hD
    refine ⟨S2, 0, 2, Kp, ?_, p2, p3, .inr (.inr (.inl ⟨rfl, rfl⟩))⟩
    by_cases e : i = j
    · rw [if_pos e]
    · rw [if_neg e, if_neg]
      rcases c with c | c
      · exact absurd c e
      · intro g
        exact c (List.eq_nil_of_length_eq_zero (by omega))
  rw [if_neg hij, if_pos (by rw [hCi]; exact Nat.le_refl 0)]
  obtain ⟨T1, q1, q2, q3⟩ := m_put0 h 0
  obtain ⟨v1, hv1⟩ := m_obj q2
  have head2 : b_M_copy_43 d (some A.1) (nI j) (nI k) (nI l) (nI i) 0 (some A.1) S = if l ≤ 4096 - off C 16 then ((f_M_keep d (some A.1) (nI j) (nI k) (nI l) T1).bind fun q5 => (xobj q5.2 (some A.1) 5).bind fun _ => (f_M_insert d (some A.1) (nI i) (nI 0) (nI l) q5.2).bind fun q6 => (xobj q6.2 (some A.1) 5).bind fun _ => (f_M_allPieces d (some A.1) q6.2).bind fun q7 => (if 1024 < q7.1 then ((xobj q7.2 (some A.1) 5).bind fun _ => (f_M_remove d (some A.1) (nI i) (nI 0) (nI l) q7.2).bind fun q8 => (xobj q8.2 (some A.1) 5).bind fun _ => (f_M_raise d (some A.1) 3 q8.2).bind fun q9 => some (q9.1, q9.2)) else ((xobj q7.2 (some A.1) 5).bind fun _ => (f_M_pieces d (some A.1) (nI i) q7.2).bind fun q10 => some (q10.1, q10.2)))) else ((f_M_raise d (some A.1) 3 T1).bind fun q11 => some (q11.1, q11.2)) := by
    simp only [b_M_copy_43, q1, Option.bind_some, m_get q2]
    rw [if_pos (show (0 : Int32) ≤ 0 by decide), show (16 : Int32) = nI 16 from rfl, m_beg q2 (by omega), show (4096 : Int32) = nI 4096 from rfl, pk_sub (by omega), ifle (by omega) (by omega)]
    simp only [hv1, Option.bind_some]
    rfl
  rw [head2]
  by_cases c1 : l ≤ 4096 - off C 16
  rotate_left 1
  · rw [if_neg c1]
    rcases o with ⟨_, rfl, hD⟩ | ⟨g1, _⟩
    · have hD := hD.symm
      subst hD
      obtain ⟨S5, v1, v2, v3⟩ := m_raise (d := d) q2 (by omega) 3
      simp only [v1, Option.bind_some]
      exact ⟨S5, 0, 3, _, rfl, v2, q3.trans v3, by simp⟩
    · exfalso
      have : off C 16 + l ≤ 4096 := g1
      omega
  rw [if_pos c1]
  obtain ⟨T2, r1, r2, r3⟩ := m_keep (d := d) q2 (t := j) (a := k) (n := l) hj hkl (by omega)
  obtain ⟨v2, hv2⟩ := m_obj r2
  have hLr : (rng (C j) k (k + l)).length = l := by rw [rng_len hkl]; omega
  obtain ⟨T4, t1, t2, t3⟩ := m_insert (d := d) r2 (t := i) (a := 0) (n := l) hLr hi (by omega) (by omega) (by omega)
  rw [hCi, ins_all] at t2
  obtain ⟨v4, hv4⟩ := m_obj t2
  have rngb : ∀ c ∈ rng (C j) k (k + l), c.1 < 4096 := fun c hc => by
    unfold rng at hc
    exact cbC j hj c (List.mem_of_mem_take (List.mem_of_mem_drop hc))
  have cbD := up_cb cbC rngb (j := i)
  have hnp := sm_np1 C hi (rng (C j) k (k + l))
  have npB := np_le (rng (C j) k (k + l)) none
  simp only [r1, Option.bind_some, hv2, t1, hv4, m_all t2 cbD (d := d) (by omega)]
  rw [show (1024 : Int32) = nI 1024 from rfl, iflt (by omega) (by omega)]
  by_cases c2 : 1024 < sm (fun t => np none (va_up C i (rng (C j) k (k + l)) t)) 16
  · rw [if_pos c2]
    rcases o with ⟨_, rfl, hD⟩ | ⟨_, g2, _⟩
    · have hD := hD.symm
      subst hD
      obtain ⟨T6, b1, b2, b3⟩ := m_remove (d := d) t2 (t := i) (a := 0) (n := l) hi (by rw [va_up_self]; omega) (by omega)
      have eR : (rng (C j) k (k + l)).take 0 ++ (rng (C j) k (k + l)).drop (0 + l) = [] := by
        have := rem_all (rng (C j) k (k + l))
        rw [hLr] at this; exact this
      rw [va_up_self, eR, va_up_back _ i _ [] hCi.symm] at b2
      obtain ⟨v6, hv6⟩ := m_obj b2
      obtain ⟨T8, d1, d2, d3⟩ := m_raise (d := d) b2 (by omega) 3
      simp only [b1, Option.bind_some, hv6, d1]
      exact ⟨T8, 0, 3, _, rfl, d2, q3.trans (r3.trans (t3.trans (b3.trans d3))), by simp⟩
    · omega
  · rw [if_neg c2]
    rcases o with ⟨g, _⟩ | ⟨_, _, rfl, rfl⟩
    · exact absurd ⟨by show off C 16 + l ≤ 4096; omega, by omega⟩ g
    · simp only [m_pieces t2 cbD (d := d) hi (by omega), Option.bind_some]
      exact ⟨T4, _, 0, _, rfl, t2, q3.trans (r3.trans t3), .inl ⟨_, rfl, rfl, rfl⟩⟩
theorem m_wipe (h : MI S A code C Kp nb bs) (w : WF C nb) (hd : 20 < d) {t : Int32} {r : Int32 ⊕ Nat} {D : Nat → List chr} (o : owipe C t r D) :
    ∃ S' b c Kp', f_M_wipe d (some A.1) t S = some (b, S') ∧ MI S' A c D Kp' nb bs ∧ MFA A S S' ∧ ((∃ v, r = .inl v ∧ c = 0 ∧ b = v) ∨ (r = .inr 2 ∧ c = 1)) := by
  obtain ⟨d, rfl⟩ : ∃ e, d = e + 1 := ⟨d - 1, by omega⟩
  obtain ⟨w1, w2, w3, w4⟩ := id w
  show ∃ S' b c Kp', e_M_wipe d (some A.1) t S = some (b, S') ∧ _
  rcases o with ⟨nok, rfl, rfl⟩ | ⟨j, hj, rfl, rfl, rfl⟩
  · obtain ⟨S1, q1, q2, q3⟩ := m_put0 h 1
    refine ⟨S1, 0, 1, Kp, ?_, q2, q3, .inr ⟨rfl, rfl⟩⟩
    simp only [e_M_wipe, (m_isText (S := S) (d := d) (by omega) t).1 nok, Option.bind_some, b_M_wipe_13, q1, m_get q2]
    rw [if_pos trivial, if_neg (by decide)]
  · have o1 := off_next C (t := j) (u := 16) hj
    have o16 : off C 16 ≤ 4096 := w1
    obtain ⟨T1, q1, q2, q3⟩ := m_put0 h 0
    obtain ⟨v1, hv1⟩ := m_obj q2
    obtain ⟨T3, s1, s2, s3⟩ := m_remove (d := d) q2 (t := j) (a := 0) (n := (C j).length) hj (by omega) (by omega)
    have s1' : f_M_remove d (some A.1) (nI j) 0 (nI (C j).length) T1 = some ((), T3) := s1
    rw [rem_all] at s2
    refine ⟨T3, nI (C j).length, 0, _, ?_, s2, q3.trans s3, .inl ⟨_, rfl, rfl, rfl⟩⟩
    simp only [e_M_wipe, (m_isText (S := S) (d := d) (by omega) (nI j)).2 j hj rfl, Option.bind_some, b_M_wipe_13, q1, m_get q2, hv1, m_size q2 (d := d) hj (by omega), s1']
    rw [if_neg (by decide), if_pos (by decide)]
end MO2
