/-! THE REFERENCE: TAG, WRITE -/
section TG
variable {mm bu be so ma ks km nb d : Nat} {code : Int32} {gb gg gs g5 g6 : Nat → Int32}
theorem mt_loop {t n b : Nat} {mask bits : Int32} (hb : b + n ≤ 4096) : ∀ f k (S : xS) (gm : Nat → Int32), k ≤ n → n - k < f → MX S mm bu be so ma ks km code nb gb gg gs gm g5 g6 →
    ∃ S' f' gm', l_M_tag_48 d f (some mm) (nI t) (nI n) mask bits (nI b) (nI k) S = b_M_tag_48 d (l_M_tag_48 d f') (some mm) (nI t) (nI n) mask bits (nI b) (nI n) S' ∧ MX S' mm bu be so ma ks km code nb gb gg gs gm' g5 g6 ∧ MF mm bu be so ma ks km S S' ∧ ∀ j, gm' j = if b + k ≤ j ∧ j < b + n then tgf mask bits (gm j) else gm j := by
  intro f
  induction f with
  | zero => intro k S gm _ h; omega
  | succ f ih =>
    intro k S gm hk hf h
    by_cases c : k = n
    · subst c
      exact ⟨S, f, gm, rfl, h, MF.rfl', fun j => by rw [if_neg (by omega)]⟩
    · have h1 := h.sM (upd gm (b + k) (tgf mask bits (gm (b + k))))
      obtain ⟨S', f', gm', q1, q2, q3, q4⟩ := ih (k + 1) _ _ (by omega) (by omega) h1
      refine ⟨S', f', gm', ?_, q2, (MF.set (by simp)).trans q3, fun j => ?_⟩
      · rw [← q1]
        show b_M_tag_48 d (l_M_tag_48 d f) (some mm) (nI t) (nI n) mask bits (nI b) (nI k) S = _
        simp only [b_M_tag_48]
        rw [ifle (by omega) (by omega), if_neg (by omega)]
        simp only [gM5 h, Option.bind_some, nI_add, ldA h.2.2.2.2.1 (show b + k < 4096 by omega) (by omega), nI_1]
        rw [show (gm (b + k) &&& (mask ^^^ (-1))) ||| (bits &&& mask) = tgf mask bits (gm (b + k)) from rfl, stA h.2.2.2.2.1 (show b + k < 4096 by omega) (by omega)]
        rfl
      · rw [q4 j]
        by_cases e : j = b + k
        · subst e; rw [if_neg (by omega), pk_us, if_pos (by omega)]
        · rw [pk_un e]
          by_cases c3 : b + k ≤ j ∧ j < b + n
          · rw [if_pos (by omega), if_pos c3]
          · rw [if_neg (by omega), if_neg c3]
theorem mr_loop {n b : Nat} (hb : b + n ≤ 4096) : ∀ f k (S : xS) (gm : Nat → Int32), k ≤ n → n - k < f → MX S mm bu be so ma ks km code nb gb gg gs gm g5 g6 →
    ∃ S' f' gm', l_M_tag_110 d f (some mm) (nI n) (nI b) (nI k) S = b_M_tag_110 d (l_M_tag_110 d f') (some mm) (nI n) (nI b) (nI n) S' ∧ MX S' mm bu be so ma ks km code nb gb gg gs gm' g5 g6 ∧ MF mm bu be so ma ks km S S' ∧ ∀ j, gm' j = if b + k ≤ j ∧ j < b + n then g6 (j - b) else gm j := by
  intro f
  induction f with
  | zero => intro k S gm _ h; omega
  | succ f ih =>
    intro k S gm hk hf h
    by_cases c : k = n
    · subst c
      exact ⟨S, f, gm, rfl, h, MF.rfl', fun j => by rw [if_neg (by omega)]⟩
    · have h1 := h.sM (upd gm (b + k) (g6 k))
      obtain ⟨S', f', gm', q1, q2, q3, q4⟩ := ih (k + 1) _ _ (by omega) (by omega) h1
      refine ⟨S', f', gm', ?_, q2, (MF.set (by simp)).trans q3, fun j => ?_⟩
      · rw [← q1]
        show b_M_tag_110 d (l_M_tag_110 d f) (some mm) (nI n) (nI b) (nI k) S = _
        simp only [b_M_tag_110]
        rw [ifle (by omega) (by omega), if_neg (by omega)]
        simp only [gM5 h, gM7 h, Option.bind_some, nI_add, ldA h.2.2.2.2.2.2.1 (show k < 4096 by omega) (by omega), stA h.2.2.2.2.1 (show b + k < 4096 by omega) (by omega), nI_1]
      · rw [q4 j]
        by_cases e : j = b + k
        · subst e; rw [if_neg (by omega), pk_us, if_pos (by omega)]; congr 1; omega
        · rw [pk_un e]
          by_cases c3 : b + k ≤ j ∧ j < b + n
          · rw [if_pos (by omega), if_pos c3]
          · rw [if_neg (by omega), if_neg c3]
end TG
section MO3
variable {S : xS} {A : MA} {code : Int32} {C : Nat → List chr} {Kp : List chr} {nb d : Nat} {bs : Nat → Int32}
theorem off_same (C : Nat → List chr) {t : Nat} {L : List chr} (h : L.length = (C t).length) (u : Nat) : off (va_up C t L) u = off C u :=
  sm_congr fun v _ => by
    by_cases e : v = t
    · subst e; rw [va_up_self, h]
    · rw [va_up_ne _ _ e]
theorem m_tag (h : MI S A code C Kp nb bs) (w : WF C nb) (hd : 20 < d) {t a n mask bits : Int32} {r : Int32 ⊕ Nat} {D : Nat → List chr} (o : otag C t a n mask bits r D) :
    ∃ S' b c Kp', f_M_tag d (some A.1) t a n mask bits S = some (b, S') ∧ MI S' A c D Kp' nb bs ∧ MFA A S S' ∧ ((∃ v, r = .inl v ∧ c = 0 ∧ b = v) ∨ (r = .inr 2 ∧ c = 1) ∨ (r = .inr 1 ∧ c = 2)) := by
  obtain ⟨d, rfl⟩ : ∃ e, d = e + 1 := ⟨d - 1, by omega⟩
  obtain ⟨w1, w2, w3, w4⟩ := id w
  have cbC : ∀ t, t < 16 → ∀ c ∈ C t, c.1 < 4096 := fun t ht c hc => by have := w3 t ht c hc; omega
  obtain ⟨wo, hwo⟩ := m_obj h
  show ∃ S' b c Kp', e_M_tag d (some A.1) t a n mask bits S = some (b, S') ∧ _
  rcases o with ⟨nok, rfl, hD⟩ | ⟨j, k, l, hj, rfl, rfl, rfl, hkl, o⟩
  · have hD := hD.symm
    subst hD
    obtain ⟨S1, q1, q2, q3⟩ := m_put0 h 1
    refine ⟨S1, 0, 1, Kp, ?_, q2, q3, .inr (.inl ⟨rfl, rfl⟩)⟩
    simp only [e_M_tag, hwo, Option.bind_some, (m_isRange h (d := d) (by omega) t a n).1 nok, b_M_tag_16, q1, m_get q2]
    rw [if_pos trivial, if_neg (by decide)]
  have o1 := off_next C (t := j) (u := 16) hj
  have o16 : off C 16 ≤ 4096 := w1
  have hrg : rg C (nI j) (nI k) (nI l) := (rg_nI C hj (by omega) (by omega)).mpr hkl
  obtain ⟨T1, q1, q2, q3⟩ := m_put0 h 0
  obtain ⟨v1, hv1⟩ := m_obj q2
  obtain ⟨T2, r1, r2, r3⟩ := m_keep (d := d) q2 (t := j) (a := k) (n := l) hj hkl (by omega)
  obtain ⟨gb, gg, gs, gm, g5, g6, hx, hh, hkp, hb, ho⟩ := r2
  have hLr : (rng (C j) k (k + l)).length = l := by rw [rng_len hkl]; omega
  have hLD : ((C j).take k ++ ((rng (C j) k (k + l)).map (tgc mask bits) ++ (C j).drop (k + l))).length = (C j).length := by
    simp only [List.length_append, List.length_take, List.length_drop, List.length_map, hLr]; omega
  obtain ⟨T3, f', gm', s1, s2, s3, s4⟩ := mt_loop (d := d) (t := j) (n := l) (b := off C j + k) (mask := mask) (bits := bits) (by omega) xN 0 T2 gm (by omega) (by unfold xN; omega) hx
  rw [Nat.add_zero] at s4
  have ltm : ∀ v u i : Nat, v < 16 → i < (C v).length → v ≠ j → ¬ (off C j + k ≤ off C v + i ∧ off C v + i < off C j + k + l) := fun v u i hv hi hvj => by
    by_cases c : v < j
    · have := off_next C c; omega
    · have := off_next C (show j < v by omega); omega
  have s2' : MI T3 A 0 (va_up C j ((C j).take k ++ ((rng (C j) k (k + l)).map (tgc mask bits) ++ (C j).drop (k + l)))) (rng (C j) k (k + l)) nb bs := by
    refine ⟨gb, gg, gs, gm', g5, g6, s2, ⟨fun u hu => by rw [off_same C hLD]; exact hh.1 u hu, fun v hv i y hy => ?_⟩, hkp, hb, by rw [off_same C hLD]; exact ho⟩
    rw [off_same C hLD]
    by_cases e : v = j
    · subst e
      rw [va_up_self] at hy
      have hi := lt_len hy
      rw [hLD] at hi
      obtain ⟨z, hz⟩ : ∃ z, (C v)[i]? = some z := ⟨_, List.getElem?_eq_getElem hi⟩
      obtain ⟨e1, e2⟩ := hh.2 v hv i z hz
      rw [s4]
      by_cases c : i < k
      · rw [List.getElem?_append_left (by rw [List.length_take]; omega), List.getElem?_take_of_lt c, hz] at hy
        cases hy
        rw [if_neg (by omega)]; exact ⟨e1, e2⟩
      · rw [List.getElem?_append_right (by rw [List.length_take]; omega), List.length_take] at hy
        have e3 : i - min k (C v).length = i - k := by omega
        rw [e3] at hy
        by_cases c2 : i - k < l
        · rw [List.getElem?_append_left (by rw [List.length_map, hLr]; exact c2), List.getElem?_map, rng_at (by omega)] at hy
          have e4 : k + (i - k) = i := by omega
          rw [e4, hz] at hy
          cases hy
          rw [if_pos (by omega), e2]; exact ⟨e1, rfl⟩
        · rw [List.getElem?_append_right (by rw [List.length_map, hLr]; omega), List.length_map, hLr, List.getElem?_drop] at hy
          have e4 : k + l + (i - k - l) = i := by omega
          rw [e4, hz] at hy
          cases hy
          rw [if_neg (by omega)]; exact ⟨e1, e2⟩
    · rw [va_up_ne _ _ e] at hy
      rw [s4, if_neg (ltm v 0 i hv (lt_len hy) e)]
      exact hh.2 v hv i y hy
  obtain ⟨v3, hv3⟩ := m_obj s2'
  have cbD := up_cb cbC (j := j) (L := (C j).take k ++ ((rng (C j) k (k + l)).map (tgc mask bits) ++ (C j).drop (k + l))) fun c hc => by
    rw [List.mem_append, List.mem_append] at hc
    rcases hc with g | g | g
    · exact cbC j hj c (List.mem_of_mem_take g)
    · obtain ⟨y, hy, rfl⟩ := List.mem_map.mp g
      unfold rng at hy
      exact cbC j hj y (List.mem_of_mem_take (List.mem_of_mem_drop hy))
    · exact cbC j hj c (List.mem_of_mem_drop g)
  have hnp := sm_np1 C hj ((C j).take k ++ ((rng (C j) k (k + l)).map (tgc mask bits) ++ (C j).drop (k + l)))
  have npA := np_le ((C j).take k ++ ((rng (C j) k (k + l)).map (tgc mask bits) ++ (C j).drop (k + l))) none
  have head : e_M_tag d (some A.1) (nI j) (nI k) (nI l) mask bits S = if 1024 < sm (fun t => np none (va_up C j ((C j).take k ++ ((rng (C j) k (k + l)).map (tgc mask bits) ++ (C j).drop (k + l))) t)) 16 then l_M_tag_110 d xN (some A.1) (nI l) (nI (off C j + k)) (nI 0) T3 else ((f_M_pieces d (some A.1) (nI j) T3).bind fun q2 => some (q2.1, q2.2)) := by
    simp only [e_M_tag, hwo, Option.bind_some, (m_isRange h (d := d) (by omega) (nI j) (nI k) (nI l)).2 hrg, b_M_tag_16, q1, m_get q2, hv1, r1, gM3 hx, ldA hx.2.2.1 (show j < 17 by omega) (by omega), hh.1 j (by omega), nI_add]
    rw [if_neg (show ¬ (1 : Int32) = 0 by decide), if_pos (show (0 : Int32) ≤ 0 by decide)]
    have s1' : l_M_tag_48 d xN (some A.1) (nI j) (nI l) mask bits (nI (off C j + k)) 0 T2 = _ := s1
    rw [s1']
    simp only [b_M_tag_48, if_pos (show nI l ≤ nI l from nI_le (Nat.le_refl _) (by omega)), hv3, Option.bind_some, m_all s2' cbD (d := d) (by omega)]
    rw [show (1024 : Int32) = nI 1024 from rfl, iflt (by omega) (by omega)]
    rfl
  rw [head]
  by_cases c2 : 1024 < sm (fun t => np none (va_up C j ((C j).take k ++ ((rng (C j) k (k + l)).map (tgc mask bits) ++ (C j).drop (k + l))) t)) 16
  · rw [if_pos c2]
    rcases o with ⟨_, rfl, hD⟩ | ⟨g2, _⟩
    · have hD := hD.symm
      subst hD
      obtain ⟨T4, f2, gm2, t1, t2, t3, t4⟩ := mr_loop (d := d) (n := l) (b := off C j + k) (by omega) xN 0 T3 gm' (by omega) (by unfold xN; omega) s2
      rw [Nat.add_zero] at t4
      have t2' : MI T4 A 0 C (rng (C j) k (k + l)) nb bs := by
        refine ⟨gb, gg, gs, gm2, g5, g6, t2, ⟨hh.1, fun v hv i y hy => ?_⟩, hkp, hb, ho⟩
        obtain ⟨e1, e2⟩ := hh.2 v hv i y hy
        refine ⟨e1, ?_⟩
        have hi := lt_len hy
        rw [t4]
        by_cases e : v = j
        · subst e
          by_cases c3 : off C v + k ≤ off C v + i ∧ off C v + i < off C v + k + l
          · rw [if_pos c3]
            have e3 : off C v + i - (off C v + k) = i - k := by omega
            rw [e3]
            exact (hkp (i - k) y (by
              rw [rng_at (by omega)]
              have e4 : k + (i - k) = i := by omega
              rw [e4]; exact hy)).2
          · rw [if_neg c3, s4, if_neg c3]; exact e2
        · rw [if_neg (ltm v 0 i hv hi e), s4, if_neg (ltm v 0 i hv hi e)]; exact e2
      obtain ⟨v4, hv4⟩ := m_obj t2'
      obtain ⟨T5, u1, u2, u3⟩ := m_raise (d := d) t2' (by omega) 2
      rw [t1]
      simp only [b_M_tag_110, if_pos (show nI l ≤ nI l from nI_le (Nat.le_refl _) (by omega)), hv4, Option.bind_some, u1]
      exact ⟨T5, 0, 2, _, rfl, u2, q3.trans (r3.trans (MFA.trans s3 (MFA.trans t3 u3))), by simp⟩
    · omega
  · rw [if_neg c2]
    rcases o with ⟨g, _⟩ | ⟨_, rfl, rfl⟩
    · omega
    · simp only [m_pieces s2' cbD (d := d) hj (by omega), Option.bind_some]
      exact ⟨T3, _, 0, _, rfl, s2', q3.trans (r3.trans s3), .inl ⟨_, rfl, rfl, rfl⟩⟩
theorem mw_loop {nb0 n : Nat} {s : Int64} (hn : n ≤ 8) (hnb : nb0 + n ≤ 2048) : ∀ f k (S : xS) (gb : Nat → Int32), k ≤ n → n - k < f → (∃ gg gs gm g5 g6, MX S A.1 A.2.1 A.2.2.1 A.2.2.2.1 A.2.2.2.2.1 A.2.2.2.2.2.1 A.2.2.2.2.2.2 code nb0 gb gg gs gm g5 g6 ∧ hold C gg gs gm ∧ keptl Kp g5 g6 ∧ off C 16 ≤ 4096) →
    (∀ i, i < nb0 + k → gb i = nwb nb0 bs s n i) → ∃ S', l_M_write_78 d f (some A.1) s (nI n) (nI k) S = some (nI nb0, S') ∧ MI S' A code C Kp (nb0 + n) (nwb nb0 bs s n) ∧ MFA A S S' := by
  intro f
  induction f with
  | zero => intro k S gb _ h; omega
  | succ f ih =>
    intro k S gb hk hf h hgb
    obtain ⟨gg, gs, gm, g5, g6, h, hh, hkp, ho⟩ := h
    show ∃ S', b_M_write_78 d (l_M_write_78 d f) (some A.1) s (nI n) (nI k) S = _ ∧ _
    simp only [b_M_write_78]
    rw [ifle (by omega) (by omega)]
    by_cases c : n ≤ k
    · have e : k = n := by omega
      subst e
      rw [if_pos c]
      have h1 := h.sC code (nb0 + k)
      simp only [gM1 h, Option.bind_some, nI_add, pM1 h, gM1 h1]
      refine ⟨_, ?_, ⟨gb, gg, gs, gm, g5, g6, h1, hh, hkp, hgb, ho⟩, MF.set (by simp)⟩
      rw [pk_sub (by omega)]
      congr 3; omega
    · rw [if_neg c]
      have h1 := h.sB (upd gb (nb0 + k) (byt s k))
      simp only [gM2 h, gM1 h, Option.bind_some, nI_add, nI_1]
      rw [show ((s >>> ((8 * nI k).toInt64 &&& 63)) &&& ((255 : Int64))).toInt32 = byt s k from rfl, stA h.2.1 (show nb0 + k < 2048 by omega) (by omega)]
      simp only [Option.bind_some]
      obtain ⟨S', q1, q2, q3⟩ := ih (k + 1) _ _ (by omega) (by omega) ⟨gg, gs, gm, g5, g6, h1, hh, hkp, ho⟩ (fun i hi => by
        by_cases e : i = nb0 + k
        · subst e
          rw [pk_us]
          unfold nwb
          rw [if_pos (by omega)]; congr 1; omega
        · rw [pk_un e]; exact hgb i (by omega))
      exact ⟨S', q1, q2, MFA.trans (MF.set (by simp)) q3⟩
theorem mc_loop {n : Nat} {s : Int64} (hb : nbs s n) : ∀ f k (S : xS), k ≤ n → 8 - k < f → l_M_write_30 d f (some A.1) s (nI k) S = b_M_write_57 d (some A.1) s (nI n) S := by
  intro f
  induction f with
  | zero => intro k S _ h; omega
  | succ f ih =>
    intro k S hk hf
    obtain ⟨b1, b2, b3⟩ := id hb
    show b_M_write_30 d (l_M_write_30 d f) (some A.1) s (nI k) S = _
    simp only [b_M_write_30]
    rw [show (8 : Int32) = nI 8 from rfl, ifle (by omega) (by omega)]
    by_cases c : 8 ≤ k
    · rw [if_pos c]
      have : k = n := by omega
      rw [this]
    · rw [if_neg c]
      rw [show ((s >>> ((nI 8 * nI k).toInt64 &&& 63)) &&& ((255 : Int64))) = sbt s k from rfl]
      by_cases c2 : sbt s k = 0
      · rw [if_pos ((lg0 _).mpr c2)]
        have : k = n := by
          rcases Nat.lt_or_ge k n with g | g
          · exact absurd c2 (b2 k g)
          · omega
        rw [this]
      · rw [if_neg (fun e => c2 ((lg0 _).mp e)), nI_1]
        refine ih (k + 1) S ?_ (by omega)
        rcases Nat.lt_or_ge k n with g | g
        · omega
        · have : k = n := by omega
          subst this
          exact absurd (b3 (by omega)) c2
theorem m_write (h : MI S A code C Kp nb bs) (hnb : nb ≤ 2048) (hd : 20 < d) {s : Int64} {r : Int32 ⊕ Nat} {nb' : Nat} {bs' : Nat → Int32} (o : owrite nb bs s r nb' bs') :
    ∃ S' b c, f_M_write d (some A.1) s S = some (b, S') ∧ MI S' A c C Kp nb' bs' ∧ MFA A S S' ∧ ((∃ v, r = .inl v ∧ c = 0 ∧ b = v) ∨ (r = .inr 0 ∧ c = 1) ∨ (r = .inr 1 ∧ c = 2)) := by
  obtain ⟨d, rfl⟩ : ∃ e, d = e + 1 := ⟨d - 1, by omega⟩
  obtain ⟨n, hb, o⟩ := o
  obtain ⟨b1, b2, b3⟩ := id hb
  show ∃ S' b c, e_M_write d (some A.1) s S = some (b, S') ∧ _
  simp only [e_M_write, sbt_0]
  by_cases c0 : n = 0
  · subst c0
    rcases o with ⟨_, rfl, rfl, rfl⟩ | ⟨g, _⟩ | ⟨g, _⟩
    · obtain ⟨S1, q1, q2, q3⟩ := m_put0 h 1
      refine ⟨S1, 0, 1, ?_, q2, q3, .inr (.inl ⟨rfl, rfl⟩)⟩
      rw [if_pos ((lg0 _).mpr (b3 (by omega)))]
      simp only [b_M_write_16, q1, Option.bind_some, m_get q2]
      rw [if_neg (by decide)]
    · omega
    · omega
  obtain ⟨S1, q1, q2, q3⟩ := m_put0 h 0
  obtain ⟨v1, hv1⟩ := m_obj q2
  rw [if_neg (fun e => b2 0 (by omega) ((lg0 _).mp e))]
  have hl : l_M_write_30 d xN (some A.1) s 0 S1 = _ := mc_loop (d := d) (A := A) hb xN 0 S1 (by omega) (by unfold xN; omega)
  simp only [b_M_write_16, q1, Option.bind_some, m_get q2]
  rw [if_pos (by decide), hl]
  simp only [b_M_write_57, m_nb q2, Option.bind_some, nI_add, hv1]
  rw [show (2048 : Int32) = nI 2048 from rfl, ifle (by omega) (by omega)]
  rcases o with ⟨g, _⟩ | ⟨_, g, rfl, rfl, rfl⟩ | ⟨_, g, rfl, rfl, rfl⟩
  · omega
  · rw [if_neg (by omega)]
    obtain ⟨T5, u1, u2, u3⟩ := m_raise (d := d) q2 (by omega) 2
    simp only [u1, Option.bind_some]
    exact ⟨T5, 0, 2, rfl, u2, q3.trans u3, by simp⟩
  · rw [if_pos g]
    obtain ⟨gb, gg, gs, gm, g5, g6, hx, hh, hkp, hbb, ho⟩ := q2
    obtain ⟨S', p1, p2, p3⟩ := mw_loop (d := d) (A := A) (code := 0) (C := C) (Kp := Kp) (bs := bs) (nb0 := nb) (n := n) (s := s) b1 g xN 0 S1 gb (by omega) (by unfold xN; omega) ⟨gg, gs, gm, g5, g6, hx, hh, hkp, ho⟩ (fun i hi => by
      unfold nwb
      rw [if_neg (by omega)]; exact hbb i (by omega))
    exact ⟨S', nI nb, 0, p1, p2, q3.trans p3, .inl ⟨_, rfl, rfl, rfl⟩⟩
end MO3
