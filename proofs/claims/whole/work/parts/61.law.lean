/-! CLASS AND REFERENCE TOGETHER -/
def oarr (g : Nat → Int64) : xO := .inl (1, (1, .inr (.inl g)))
def AL (A : MA) : List Nat := [A.1, A.2.1, A.2.2.1, A.2.2.2.1, A.2.2.2.2.1, A.2.2.2.2.2.1, A.2.2.2.2.2.2]
def GA (A : MA) (o : Nat) : Nat → Prop := fun b => b = o ∨ b ∈ AL A
def LI (S : xS) (x : Nat) (A : MA) (o : Nat) (C : Nat → List chr) (nb : Nat) (bs : Nat → Int32) : Prop :=
  CI S x C nb bs (GA A o) ∧ (∃ code Kp, MI S A code C Kp nb bs) ∧ (∃ g, S.1 o = some (oarr g)) ∧ o ∉ AL A ∧ ∀ i, i < nb → bs i ≠ 0
theorem CX.kept {S S' : xS} {x B R T nb : Nat} {g : Nat → Int32} {rts : Nat → Option Nat} {X : Nat → List nd} {G : Nat → Prop} (h : CX S x B R T nb g rts X G) (hk : ∀ b, ¬ G b → S'.1 b = S.1 b) (h2 : S'.2 = S.2) : CX S' x B R T nb g rts X G := by
  obtain ⟨h1, h3, h4, h5, h6, h7, h8, h9, n1, n2, n3⟩ := h
  refine ⟨by rw [hk x n1, h1], by rw [hk B n2, h3], by rw [hk R n3, h4], fun t ht => ?_, h6, h7, h8, h9.kept h2 fun b hb => hk b fun g => hb (.inl g), n1, n2, n3⟩
  obtain ⟨hh, T'⟩ := h5 t ht
  exact ⟨hh, tr_kept T' fun a ha => hk a ((h7 t ht).2 a ha)⟩
theorem CI.kept {S S' : xS} {x nb : Nat} {C : Nat → List chr} {bs : Nat → Int32} {G : Nat → Prop} (h : CI S x C nb bs G) (hk : ∀ b, ¬ G b → S'.1 b = S.1 b) (h2 : S'.2 = S.2) : CI S' x C nb bs G := by
  obtain ⟨B, R, T, g, rts, X, h, r⟩ := h
  exact ⟨B, R, T, g, rts, X, h.kept hk h2, r⟩
theorem MI.kept {S S' : xS} {A : MA} {code : Int32} {C : Nat → List chr} {Kp : List chr} {nb : Nat} {bs : Nat → Int32} (h : MI S A code C Kp nb bs) (hk : ∀ b ∈ AL A, S'.1 b = S.1 b) : MI S' A code C Kp nb bs := by
  obtain ⟨gb, gg, gs, gm, g5, g6, ⟨h1, h2, h3, h4, h5, h6, h7, h8⟩, r⟩ := h
  refine ⟨gb, gg, gs, gm, g5, g6, ⟨by rw [hk _ (by simp [AL]), h1], by rw [hk _ (by simp [AL]), h2], by rw [hk _ (by simp [AL]), h3], by rw [hk _ (by simp [AL]), h4], by rw [hk _ (by simp [AL]), h5], by rw [hk _ (by simp [AL]), h6], by rw [hk _ (by simp [AL]), h7], h8⟩, r⟩
theorem stO {S : xS} {o : Nat} {g : Nat → Int64} (h : S.1 o = some (oarr g)) (v : Int64) : xstL S (some o) 1 0 v = some (xset S o (oarr (vp_updL g 0 v))) := by
  simp only [xstL, xarr_of h, Option.bind_some]
  rw [if_pos (by decide)]
  rfl
theorem ldO {S : xS} {o : Nat} {g : Nat → Int64} (h : S.1 o = some (oarr g)) : xldL S (some o) 1 0 = some (g 0) := by
  simp only [xldL, xarr_of h, Option.bind_some]
  rw [if_pos (by decide)]
  rfl
theorem lg_same (z : Int64) : lg_cmp z z = 0 := by
  unfold lg_cmp
  rw [if_neg (show ¬ z > z from Int64.lt_irrefl), if_pos rfl]
theorem CI.xo {S : xS} {x nb : Nat} {C : Nat → List chr} {bs : Nat → Int32} {G : Nat → Prop} (h : CI S x C nb bs G) : ∃ w, xobj S (some x) 0 = some w := by
  obtain ⟨B, R, T, g, rts, X, h, r⟩ := h
  exact ⟨_, gPo h.1⟩
theorem pair {S : xS} {x nb o d n m : Nat} {A : MA} {C : Nat → List chr} {bs : Nat → Int32} {fP : Option ((Int32 ⊕ Nat) × xS)} {fM : xS → Option (Int32 × xS)} {H : Nat → xS → Option (Int32 × xS)} (hd : 20 < d) (hL : LI S x A o C nb bs)
    (hP : ∃ r S' D nb' bs', fP = some (r, S') ∧ CI S' x D nb' bs' (GA A o) ∧ (∀ b, GA A o b → S'.1 b = S.1 b) ∧ rm S' n m ∧ (∀ i, i < nb' → bs' i ≠ 0) ∧ ∀ T code Kp, MI T A code C Kp nb bs → ∃ T' b c Kp', fM T = some (b, T') ∧ MI T' A c D Kp' nb' bs' ∧ MFA A T T' ∧ ((∃ v, r = .inl v ∧ c = 0 ∧ b = v) ∨ ∃ e, r = .inr e ∧ (∀ T, H e T = some (c, T)) ∧ c ≠ 0)) :
    ∃ k S1 b S2 D nb' bs', ((xobj S (some x) 0).bind fun _ => fP.bind fun q1 => xtry q1.1 (fun v2 => (xstL q1.2 (some o) 1 0 v2.toInt64).bind fun S3 => some (0, S3)) (fun e => H e q1.2)) = some (k, S1) ∧ (∃ w, xobj S1 (some A.1) 5 = some w) ∧ fM S1 = some (b, S2) ∧ (∃ w, xobj S2 (some A.1) 5 = some w) ∧ f_M_thrown d (some A.1) S2 = some (k, S2) ∧ (k = 0 → xldL S2 (some o) 1 0 = some b.toInt64) ∧ LI S2 x A o D nb' bs' ∧ rm S2 n m := by
  obtain ⟨hC, ⟨code, Kp, hM⟩, ⟨g, hg⟩, ho, hz⟩ := hL
  obtain ⟨r, S', D, nb', bs', f1, c1, k1, r1, z1, hm⟩ := hP
  obtain ⟨w, hw⟩ := hC.xo
  have hM' : MI S' A code C Kp nb bs := hM.kept fun b hb => k1 b (.inr hb)
  have hg' : S'.1 o = some (oarr g) := (k1 o (.inl rfl)).trans hg
  cases r with
  | inl v =>
    have hM2 : MI (xset S' o (oarr (vp_updL g 0 v.toInt64))) A code C Kp nb bs := hM'.kept fun b hb => xset_ne _ (fun e => ho (by rw [← e]; exact hb))
    obtain ⟨T', b, c, Kp', q1, q2, q3, q4⟩ := hm _ _ _ hM2
    obtain ⟨w2, hw2⟩ := m_obj q2
    rcases q4 with ⟨v', e1, rfl, rfl⟩ | ⟨e, e1, _⟩
    · cases e1
      have o2 : T'.1 o = some (oarr (vp_updL g 0 v.toInt64)) := (q3.1 o ho).trans (xset_at _ _ _)
      refine ⟨0, _, v, T', D, nb', bs', ?_, m_obj hM2, q1, ⟨w2, hw2⟩, m_thrown q2 (by omega), fun _ => by rw [ldO o2, pk_uLs], ⟨c1.kept (fun b hb => ?_) (by rw [q3.2]; rfl), ⟨_, _, q2⟩, ⟨_, o2⟩, ho, z1⟩, r1.same (by rw [q3.2]; rfl)⟩
      · simp only [hw, Option.bind_some, f1, xtry, stO hg']
      · rw [q3.1 b (fun g => hb (.inr g)), xset_ne _ (fun e => hb (.inl e))]
    · cases e1
  | inr e =>
    obtain ⟨T', b, c, Kp', q1, q2, q3, q4⟩ := hm _ _ _ hM'
    obtain ⟨w2, hw2⟩ := m_obj q2
    rcases q4 with ⟨v', e1, _⟩ | ⟨e', e1, hH, hc⟩
    · cases e1
    · cases e1
      have o2 : T'.1 o = some (oarr g) := (q3.1 o ho).trans hg'
      refine ⟨c, S', b, T', D, nb', bs', ?_, m_obj hM', q1, ⟨w2, hw2⟩, m_thrown q2 (by omega), fun e => absurd e hc, ⟨c1.kept (fun b hb => q3.1 b (fun g => hb (.inr g))) q3.2, ⟨_, _, q2⟩, ⟨_, o2⟩, ho, z1⟩, r1.same q3.2⟩
      simp only [hw, Option.bind_some, f1, xtry, hH]
theorem cmp_ok {S : xS} {o : Nat} {k b : Int32} {α : Type} (NEXT Z : Option α) (hv : k = 0 → xldL S (some o) 1 0 = some b.toInt64) : (if k = k then (if k = 0 then ((xldL S (some o) 1 0).bind fun v9 => (if (lg_cmp v9 b.toInt64) = 0 then NEXT else Z)) else NEXT) else Z) = NEXT := by
  rw [if_pos rfl]
  by_cases c : k = 0
  · rw [if_pos c, hv c]
    simp only [Option.bind_some, lg_same]
    rfl
  · rw [if_neg c]
section STEPS
variable {S : xS} {x nb o d n m : Nat} {A : MA} {C : Nat → List chr} {bs : Nat → Int32}
theorem LI.wf (h : LI S x A o C nb bs) : WF C nb := by
  obtain ⟨⟨_, _, _, _, _, _, _, _, _, w⟩, _⟩ := h
  exact w
theorem st_write (h : LI S x A o C nb bs) (hd : 130 < d) (hr : rm S (n + 1100) (m + 9000)) (s : Int64) : ∃ k S1 b S2 D nb' bs', f_L_write d (some x) s (some o) S = some (k, S1) ∧ (∃ w, xobj S1 (some A.1) 5 = some w) ∧ f_M_write d (some A.1) s S1 = some (b, S2) ∧ (∃ w, xobj S2 (some A.1) 5 = some w) ∧ f_M_thrown d (some A.1) S2 = some (k, S2) ∧ (k = 0 → xldL S2 (some o) 1 0 = some b.toInt64) ∧ LI S2 x A o D nb' bs' ∧ rm S2 n m := by
  obtain ⟨e, rfl⟩ : ∃ e, d = e + 1 := ⟨d - 1, by omega⟩
  have w := h.wf
  obtain ⟨r, S', nb', bs', f1, o1, c1, k1, r1⟩ := c_write h.1 (d := e) (n := n) (m := m) (by omega) (hr.less (by omega) (by omega)) s
  refine pair (d := e + 1) (H := fun e S => (if e = 0 then (some (1, S)) else if e = 1 then (some (2, S)) else none)) (by omega) h ⟨r, S', C, nb', bs', f1, c1, k1, r1, ?_, fun T code Kp hM => ?_⟩
  · obtain ⟨n', hb, o2⟩ := o1
    rcases o2 with ⟨_, _, rfl, rfl⟩ | ⟨_, _, _, rfl, rfl⟩ | ⟨_, _, _, rfl, rfl⟩
    · exact h.2.2.2.2
    · exact h.2.2.2.2
    · intro i hi
      unfold nwb
      by_cases c : nb ≤ i ∧ i < nb + n'
      · rw [if_pos c]
        have := hb.1
        exact byt_nz (by omega) (hb.2.1 (i - nb) (by omega))
      · rw [if_neg c]; exact h.2.2.2.2 i (by omega)
  · obtain ⟨T', b, c, q1, q2, q3, q4⟩ := m_write hM w.2.2.2 (d := e + 1) (by omega) o1
    refine ⟨T', b, c, Kp, q1, q2, q3, ?_⟩
    rcases q4 with q | ⟨q, rfl⟩ | ⟨q, rfl⟩
    · exact .inl q
    · exact .inr ⟨0, q, fun _ => rfl, by decide⟩
    · exact .inr ⟨1, q, fun _ => rfl, by decide⟩
theorem st_put (h : LI S x A o C nb bs) (hd : 130 < d) (hr : rm S (n + 1100) (m + 9000)) (a1 a2 a3 a4 a5 : Int32) : ∃ k S1 b S2 D nb' bs', f_L_put d (some x) a1 a2 a3 a4 a5 (some o) S = some (k, S1) ∧ (∃ w, xobj S1 (some A.1) 5 = some w) ∧ f_M_put d (some A.1) a1 a2 a3 a4 a5 S1 = some (b, S2) ∧ (∃ w, xobj S2 (some A.1) 5 = some w) ∧ f_M_thrown d (some A.1) S2 = some (k, S2) ∧ (k = 0 → xldL S2 (some o) 1 0 = some b.toInt64) ∧ LI S2 x A o D nb' bs' ∧ rm S2 n m := by
  obtain ⟨e, rfl⟩ : ∃ e, d = e + 1 := ⟨d - 1, by omega⟩
  have w := h.wf
  obtain ⟨r, S', D, f1, o1, c1, k1, r1⟩ := c_put h.1 (d := e) (n := n) (m := m) (by omega) (hr.less (by omega) (by omega)) a1 a2 a3 a4 a5
  refine pair (d := e + 1) (H := fun e S => (if e = 2 then (some (1, S)) else if e = 1 then (some (2, S)) else none)) (by omega) h ⟨r, S', D, nb, bs, f1, c1, k1, r1, h.2.2.2.2, fun T code Kp hM => ?_⟩
  obtain ⟨T', b, c, Kp', q1, q2, q3, q4⟩ := m_put hM w (d := e + 1) (by omega) o1
  refine ⟨T', b, c, Kp', q1, q2, q3, ?_⟩
  rcases q4 with q | ⟨q, rfl⟩ | ⟨q, rfl⟩
  · exact .inl q
  · exact .inr ⟨2, q, fun _ => rfl, by decide⟩
  · exact .inr ⟨1, q, fun _ => rfl, by decide⟩
theorem st_cut (h : LI S x A o C nb bs) (hd : 130 < d) (hr : rm S (n + 1100) (m + 9000)) (a1 a2 a3 a4 : Int32) : ∃ k S1 b S2 D nb' bs', f_L_cut d (some x) a1 a2 a3 a4 (some o) S = some (k, S1) ∧ (∃ w, xobj S1 (some A.1) 5 = some w) ∧ f_M_cut d (some A.1) a1 a2 a3 a4 S1 = some (b, S2) ∧ (∃ w, xobj S2 (some A.1) 5 = some w) ∧ f_M_thrown d (some A.1) S2 = some (k, S2) ∧ (k = 0 → xldL S2 (some o) 1 0 = some b.toInt64) ∧ LI S2 x A o D nb' bs' ∧ rm S2 n m := by
  obtain ⟨e, rfl⟩ : ∃ e, d = e + 1 := ⟨d - 1, by omega⟩
  have w := h.wf
  obtain ⟨r, S', D, f1, o1, c1, k1, r1⟩ := c_cut h.1 (d := e) (n := n) (m := m) (by omega) (hr.less (by omega) (by omega)) a1 a2 a3 a4
  refine pair (d := e + 1) (H := fun e S => (if e = 2 then (some (1, S)) else if e = 0 then (some (2, S)) else if e = 1 then (some (3, S)) else none)) (by omega) h ⟨r, S', D, nb, bs, f1, c1, k1, r1, h.2.2.2.2, fun T code Kp hM => ?_⟩
  obtain ⟨T', b, c, Kp', q1, q2, q3, q4⟩ := m_cut hM w (d := e + 1) (by omega) o1
  refine ⟨T', b, c, Kp', q1, q2, q3, ?_⟩
  rcases q4 with q | ⟨q, rfl⟩ | ⟨q, rfl⟩ | ⟨q, rfl⟩
  · exact .inl q
  · exact .inr ⟨2, q, fun _ => rfl, by decide⟩
  · exact .inr ⟨0, q, fun _ => rfl, by decide⟩
  · exact .inr ⟨1, q, fun _ => rfl, by decide⟩
theorem st_paste (h : LI S x A o C nb bs) (hd : 130 < d) (hr : rm S (n + 1100) (m + 9000)) (a1 a2 a3 : Int32) : ∃ k S1 b S2 D nb' bs', f_L_paste d (some x) a1 a2 a3 (some o) S = some (k, S1) ∧ (∃ w, xobj S1 (some A.1) 5 = some w) ∧ f_M_paste d (some A.1) a1 a2 a3 S1 = some (b, S2) ∧ (∃ w, xobj S2 (some A.1) 5 = some w) ∧ f_M_thrown d (some A.1) S2 = some (k, S2) ∧ (k = 0 → xldL S2 (some o) 1 0 = some b.toInt64) ∧ LI S2 x A o D nb' bs' ∧ rm S2 n m := by
  obtain ⟨e, rfl⟩ : ∃ e, d = e + 1 := ⟨d - 1, by omega⟩
  have w := h.wf
  obtain ⟨r, S', D, f1, o1, c1, k1, r1⟩ := c_paste h.1 (d := e) (n := n) (m := m) (by omega) (hr.less (by omega) (by omega)) a1 a2 a3
  refine pair (d := e + 1) (H := fun e S => (if e = 2 then (some (1, S)) else if e = 0 then (some (2, S)) else if e = 1 then (some (3, S)) else none)) (by omega) h ⟨r, S', D, nb, bs, f1, c1, k1, r1, h.2.2.2.2, fun T code Kp hM => ?_⟩
  obtain ⟨T', b, c, Kp', q1, q2, q3, q4⟩ := m_paste hM w (d := e + 1) (by omega) o1
  refine ⟨T', b, c, Kp', q1, q2, q3, ?_⟩
  rcases q4 with q | ⟨q, rfl⟩ | ⟨q, rfl⟩ | ⟨q, rfl⟩
  · exact .inl q
  · exact .inr ⟨2, q, fun _ => rfl, by decide⟩
  · exact .inr ⟨0, q, fun _ => rfl, by decide⟩
  · exact .inr ⟨1, q, fun _ => rfl, by decide⟩
theorem st_copy (h : LI S x A o C nb bs) (hd : 130 < d) (hr : rm S (n + 1100) (m + 9000)) (a1 a2 a3 a4 : Int32) : ∃ k S1 b S2 D nb' bs', f_L_copy d (some x) a1 a2 a3 a4 (some o) S = some (k, S1) ∧ (∃ w, xobj S1 (some A.1) 5 = some w) ∧ f_M_copy d (some A.1) a1 a2 a3 a4 S1 = some (b, S2) ∧ (∃ w, xobj S2 (some A.1) 5 = some w) ∧ f_M_thrown d (some A.1) S2 = some (k, S2) ∧ (k = 0 → xldL S2 (some o) 1 0 = some b.toInt64) ∧ LI S2 x A o D nb' bs' ∧ rm S2 n m := by
  obtain ⟨e, rfl⟩ : ∃ e, d = e + 1 := ⟨d - 1, by omega⟩
  have w := h.wf
  obtain ⟨r, S', D, f1, o1, c1, k1, r1⟩ := c_copy h.1 (d := e) (n := n) (m := m) (by omega) (hr.less (by omega) (by omega)) a1 a2 a3 a4
  refine pair (d := e + 1) (H := fun e S => (if e = 2 then (some (1, S)) else if e = 0 then (some (2, S)) else if e = 1 then (some (3, S)) else none)) (by omega) h ⟨r, S', D, nb, bs, f1, c1, k1, r1, h.2.2.2.2, fun T code Kp hM => ?_⟩
  obtain ⟨T', b, c, Kp', q1, q2, q3, q4⟩ := m_copy hM w (d := e + 1) (by omega) o1
  refine ⟨T', b, c, Kp', q1, q2, q3, ?_⟩
  rcases q4 with q | ⟨q, rfl⟩ | ⟨q, rfl⟩ | ⟨q, rfl⟩
  · exact .inl q
  · exact .inr ⟨2, q, fun _ => rfl, by decide⟩
  · exact .inr ⟨0, q, fun _ => rfl, by decide⟩
  · exact .inr ⟨1, q, fun _ => rfl, by decide⟩
theorem st_tag (h : LI S x A o C nb bs) (hd : 130 < d) (hr : rm S (n + 1100) (m + 9000)) (a1 a2 a3 a4 a5 : Int32) : ∃ k S1 b S2 D nb' bs', f_L_tag d (some x) a1 a2 a3 a4 a5 (some o) S = some (k, S1) ∧ (∃ w, xobj S1 (some A.1) 5 = some w) ∧ f_M_tag d (some A.1) a1 a2 a3 a4 a5 S1 = some (b, S2) ∧ (∃ w, xobj S2 (some A.1) 5 = some w) ∧ f_M_thrown d (some A.1) S2 = some (k, S2) ∧ (k = 0 → xldL S2 (some o) 1 0 = some b.toInt64) ∧ LI S2 x A o D nb' bs' ∧ rm S2 n m := by
  obtain ⟨e, rfl⟩ : ∃ e, d = e + 1 := ⟨d - 1, by omega⟩
  have w := h.wf
  obtain ⟨r, S', D, f1, o1, c1, k1, r1⟩ := c_tag h.1 (d := e) (n := n) (m := m) (by omega) (hr.less (by omega) (by omega)) a1 a2 a3 a4 a5
  refine pair (d := e + 1) (H := fun e S => (if e = 2 then (some (1, S)) else if e = 1 then (some (2, S)) else none)) (by omega) h ⟨r, S', D, nb, bs, f1, c1, k1, r1, h.2.2.2.2, fun T code Kp hM => ?_⟩
  obtain ⟨T', b, c, Kp', q1, q2, q3, q4⟩ := m_tag hM w (d := e + 1) (by omega) o1
  refine ⟨T', b, c, Kp', q1, q2, q3, ?_⟩
  rcases q4 with q | ⟨q, rfl⟩ | ⟨q, rfl⟩
  · exact .inl q
  · exact .inr ⟨2, q, fun _ => rfl, by decide⟩
  · exact .inr ⟨1, q, fun _ => rfl, by decide⟩
theorem st_wipe (h : LI S x A o C nb bs) (hd : 130 < d) (hr : rm S (n + 1100) (m + 9000)) (a1 : Int32) : ∃ k S1 b S2 D nb' bs', f_L_wipe d (some x) a1 (some o) S = some (k, S1) ∧ (∃ w, xobj S1 (some A.1) 5 = some w) ∧ f_M_wipe d (some A.1) a1 S1 = some (b, S2) ∧ (∃ w, xobj S2 (some A.1) 5 = some w) ∧ f_M_thrown d (some A.1) S2 = some (k, S2) ∧ (k = 0 → xldL S2 (some o) 1 0 = some b.toInt64) ∧ LI S2 x A o D nb' bs' ∧ rm S2 n m := by
  obtain ⟨e, rfl⟩ : ∃ e, d = e + 1 := ⟨d - 1, by omega⟩
  have w := h.wf
  obtain ⟨r, S', D, f1, o1, c1, k1, r1⟩ := c_wipe h.1 (d := e) (n := n) (m := m) (by omega) (hr.less (by omega) (by omega)) a1
  refine pair (d := e + 1) (H := fun e S => (if e = 2 then (some (1, S)) else none)) (by omega) h ⟨r, S', D, nb, bs, f1, c1, k1, r1, h.2.2.2.2, fun T code Kp hM => ?_⟩
  obtain ⟨T', b, c, Kp', q1, q2, q3, q4⟩ := m_wipe hM w (d := e + 1) (by omega) o1
  refine ⟨T', b, c, Kp', q1, q2, q3, ?_⟩
  rcases q4 with q | ⟨q, rfl⟩
  · exact .inl q
  · exact .inr ⟨2, q, fun _ => rfl, by decide⟩
theorem st_look (h : LI S x A o C nb bs) (hd : 130 < d) (hr : rm S (n + 1100) (m + 9000)) (a1 a2 a3 : Int32) : ∃ k S1 b S2 D nb' bs', f_L_look d (some x) a1 a2 a3 (some o) S = some (k, S1) ∧ (∃ w, xobj S1 (some A.1) 5 = some w) ∧ f_M_look d (some A.1) a1 a2 a3 S1 = some (b, S2) ∧ (∃ w, xobj S2 (some A.1) 5 = some w) ∧ f_M_thrown d (some A.1) S2 = some (k, S2) ∧ (k = 0 → xldL S2 (some o) 1 0 = some b.toInt64) ∧ LI S2 x A o D nb' bs' ∧ rm S2 n m := by
  obtain ⟨e, rfl⟩ : ∃ e, d = e + 1 := ⟨d - 1, by omega⟩
  have w := h.wf
  obtain ⟨r, S', f1, o1, c1, k1, r1⟩ := c_look h.1 (d := e) (n := n) (m := m) (by omega) (hr.less (by omega) (by omega)) a1 a2 a3
  refine pair (d := e + 1) (H := fun e S => (if e = 2 then (some (1, S)) else if e = 0 then (some (2, S)) else none)) (by omega) h ⟨r, S', C, nb, bs, f1, c1, k1, r1, h.2.2.2.2, fun T code Kp hM => ?_⟩
  obtain ⟨T', b, c, q1, q2, q3, q4⟩ := m_look hM w (d := e + 1) (by omega) o1
  refine ⟨T', b, c, Kp, q1, q2, q3, ?_⟩
  rcases q4 with q | ⟨q, rfl⟩ | ⟨q, rfl⟩
  · exact .inl q
  · exact .inr ⟨2, q, fun _ => rfl, by decide⟩
  · exact .inr ⟨0, q, fun _ => rfl, by decide⟩
theorem st_piece (h : LI S x A o C nb bs) (hd : 130 < d) (hr : rm S (n + 1100) (m + 9000)) (a1 a2 a3 : Int32) : ∃ k S1 b S2 D nb' bs', f_L_piece d (some x) a1 a2 a3 (some o) S = some (k, S1) ∧ (∃ w, xobj S1 (some A.1) 5 = some w) ∧ f_M_piece d (some A.1) a1 a2 a3 S1 = some (b, S2) ∧ (∃ w, xobj S2 (some A.1) 5 = some w) ∧ f_M_thrown d (some A.1) S2 = some (k, S2) ∧ (k = 0 → xldL S2 (some o) 1 0 = some b.toInt64) ∧ LI S2 x A o D nb' bs' ∧ rm S2 n m := by
  obtain ⟨e, rfl⟩ : ∃ e, d = e + 1 := ⟨d - 1, by omega⟩
  have w := h.wf
  obtain ⟨r, S', f1, o1, c1, k1, r1⟩ := c_piece h.1 (d := e) (n := n) (m := m) (by omega) (hr.less (by omega) (by omega)) a1 a2 a3
  refine pair (d := e + 1) (H := fun e S => (if e = 2 then (some (1, S)) else if e = 0 then (some (2, S)) else none)) (by omega) h ⟨r, S', C, nb, bs, f1, c1, k1, r1, h.2.2.2.2, fun T code Kp hM => ?_⟩
  obtain ⟨T', b, c, q1, q2, q3, q4⟩ := m_piece hM w (d := e + 1) (by omega) o1
  refine ⟨T', b, c, Kp, q1, q2, q3, ?_⟩
  rcases q4 with q | ⟨q, rfl⟩ | ⟨q, rfl⟩
  · exact .inl q
  · exact .inr ⟨2, q, fun _ => rfl, by decide⟩
  · exact .inr ⟨0, q, fun _ => rfl, by decide⟩
theorem st_find (h : LI S x A o C nb bs) (hd : 130 < d) (hr : rm S (n + 1100) (m + 9000)) (a1 a2 a3 : Int32) : ∃ k S1 b S2 D nb' bs', f_L_find d (some x) a1 a2 a3 (some o) S = some (k, S1) ∧ (∃ w, xobj S1 (some A.1) 5 = some w) ∧ f_M_find d (some A.1) a1 a2 a3 S1 = some (b, S2) ∧ (∃ w, xobj S2 (some A.1) 5 = some w) ∧ f_M_thrown d (some A.1) S2 = some (k, S2) ∧ (k = 0 → xldL S2 (some o) 1 0 = some b.toInt64) ∧ LI S2 x A o D nb' bs' ∧ rm S2 n m := by
  obtain ⟨e, rfl⟩ : ∃ e, d = e + 1 := ⟨d - 1, by omega⟩
  have w := h.wf
  obtain ⟨r, S', f1, o1, c1, k1, r1⟩ := c_find h.1 (d := e) (n := n) (m := m) (by omega) (hr.less (by omega) (by omega)) a1 a2 a3
  refine pair (d := e + 1) (H := fun e S => (if e = 2 then (some (1, S)) else none)) (by omega) h ⟨r, S', C, nb, bs, f1, c1, k1, r1, h.2.2.2.2, fun T code Kp hM => ?_⟩
  obtain ⟨T', b, c, q1, q2, q3, q4⟩ := m_find hM w (d := e + 1) (by omega) o1
  refine ⟨T', b, c, Kp, q1, q2, q3, ?_⟩
  rcases q4 with q | ⟨q, rfl⟩
  · exact .inl q
  · exact .inr ⟨2, q, fun _ => rfl, by decide⟩
theorem st_differ (h : LI S x A o C nb bs) (hd : 130 < d) (hr : rm S (n + 1100) (m + 9000)) (a1 a2 : Int32) : ∃ k S1 b S2 D nb' bs', f_L_differ d (some x) a1 a2 (some o) S = some (k, S1) ∧ (∃ w, xobj S1 (some A.1) 5 = some w) ∧ f_M_differ d (some A.1) a1 a2 S1 = some (b, S2) ∧ (∃ w, xobj S2 (some A.1) 5 = some w) ∧ f_M_thrown d (some A.1) S2 = some (k, S2) ∧ (k = 0 → xldL S2 (some o) 1 0 = some b.toInt64) ∧ LI S2 x A o D nb' bs' ∧ rm S2 n m := by
  obtain ⟨e, rfl⟩ : ∃ e, d = e + 1 := ⟨d - 1, by omega⟩
  have w := h.wf
  obtain ⟨r, S', f1, o1, c1, k1, r1⟩ := c_differ h.1 h.2.2.2.2 (d := e) (n := n) (m := m) (by omega) (hr.less (by omega) (by omega)) a1 a2
  refine pair (d := e + 1) (H := fun e S => (if e = 2 then (some (1, S)) else none)) (by omega) h ⟨r, S', C, nb, bs, f1, c1, k1, r1, h.2.2.2.2, fun T code Kp hM => ?_⟩
  obtain ⟨T', b, c, q1, q2, q3, q4⟩ := m_differ hM w (d := e + 1) (by omega) o1
  refine ⟨T', b, c, Kp, q1, q2, q3, ?_⟩
  rcases q4 with q | ⟨q, rfl⟩
  · exact .inl q
  · exact .inr ⟨2, q, fun _ => rfl, by decide⟩
theorem st_length (h : LI S x A o C nb bs) (hd : 130 < d) (hr : rm S (n + 1100) (m + 9000)) (a1 : Int32) : ∃ r S2, f_P_length d (some x) a1 S = some (r, S) ∧ (∃ w, xobj S (some x) 0 = some w) ∧ (∃ w, xobj S (some A.1) 5 = some w) ∧ f_M_length d (some A.1) a1 S = some (r, S2) ∧ LI S2 x A o C nb bs ∧ rm S2 n m := by
  obtain ⟨r, f1, o1⟩ := c_length h.1 (d := d) (by omega) a1
  obtain ⟨hC, ⟨code, Kp, hM⟩, ⟨g, hg⟩, ho, hz⟩ := h
  obtain ⟨S2, q1, q2, q3⟩ := m_length hM (d := d) (by omega) o1
  exact ⟨r, S2, f1, hC.xo, m_obj hM, q1, ⟨hC.kept (fun b hb => q3.1 b (fun g => hb (.inr g))) q3.2, ⟨_, _, q2⟩, ⟨g, (q3.1 o ho).trans hg⟩, ho, hz⟩, (hr.less (by omega) (by omega)).same q3.2⟩
theorem st_count (h : LI S x A o C nb bs) (hd : 130 < d) (hr : rm S (n + 1100) (m + 9000)) (a1 : Int32) : ∃ r S2, f_P_count d (some x) a1 S = some (r, S) ∧ (∃ w, xobj S (some x) 0 = some w) ∧ (∃ w, xobj S (some A.1) 5 = some w) ∧ f_M_count d (some A.1) a1 S = some (r, S2) ∧ LI S2 x A o C nb bs ∧ rm S2 n m := by
  have w := h.wf
  obtain ⟨r, f1, o1⟩ := c_count h.1 (d := d) (by omega) a1
  obtain ⟨hC, ⟨code, Kp, hM⟩, ⟨g, hg⟩, ho, hz⟩ := h
  obtain ⟨S2, q1, q2, q3⟩ := m_count hM (fun t ht c hc => by have := w.2.2.1 t ht c hc; have := w.2.2.2; omega) (d := d) (by omega) o1
  exact ⟨r, S2, f1, hC.xo, m_obj hM, q1, ⟨hC.kept (fun b hb => q3.1 b (fun g => hb (.inr g))) q3.2, ⟨_, _, q2⟩, ⟨g, (q3.1 o ho).trans hg⟩, ho, hz⟩, (hr.less (by omega) (by omega)).same q3.2⟩
end STEPS
