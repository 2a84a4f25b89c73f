/-! BYTES OF A LONG -/
def sbt (s : Int64) (i : Nat) : Int64 := (s >>> ((8 * nI i).toInt64 &&& 63)) &&& ((255 : Int64))
def ubt (s : Int64) (i : Nat) : Int64 := ((s.toUInt64 >>> ((8 * nI i).toInt64.toUInt64 &&& Int64.toUInt64 63)).toInt64) &&& ((255 : Int64))
def byt (s : Int64) (i : Nat) : Int32 := (sbt s i).toInt32
theorem bit255 : ∀ k : Fin 64, (255#64).getLsbD k.val = decide (k.val < 8) := by decide
theorem bit255' : ∀ k : Fin 32, (255#32).getLsbD k.val = decide (k.val < 8) := by decide
theorem amt1 : ∀ i : Fin 8, (((8 * nI i.val).toInt64 &&& 63).toBitVec.smod 64).toNat = 8 * i.val := by decide
theorem amt2 : ∀ i : Fin 8, (((8 * nI i.val).toInt64.toUInt64 &&& Int64.toUInt64 63).toBitVec % 64).toNat = 8 * i.val := by decide
theorem sbt_bit (s : Int64) {i : Nat} (hi : i < 8) {k : Nat} (hk : k < 64) : (sbt s i).toBitVec.getLsbD k = (s.toBitVec.getLsbD (8 * i + k) && decide (k < 8)) := by
  unfold sbt
  rw [Int64.toBitVec_and, BitVec.getLsbD_and, Int64.toBitVec_shiftRight, BitVec.sshiftRight_eq']
  have h1 := amt1 ⟨i, hi⟩
  simp only at h1
  rw [h1, BitVec.getLsbD_sshiftRight]
  have h2 : (255 : Int64).toBitVec = 255#64 := rfl
  have h3 := bit255 ⟨k, hk⟩
  simp only at h3
  rw [h2, h3]
  by_cases c : k < 8
  · have c1 : 8 * i + k < 64 := by omega
    simp [c, c1, hk]
  · simp [c]
theorem ubt_bit (s : Int64) {i : Nat} (hi : i < 8) {k : Nat} (hk : k < 64) : (ubt s i).toBitVec.getLsbD k = (s.toBitVec.getLsbD (8 * i + k) && decide (k < 8)) := by
  unfold ubt
  rw [Int64.toBitVec_and, BitVec.getLsbD_and]
  have e : ((s.toUInt64 >>> ((8 * nI i).toInt64.toUInt64 &&& Int64.toUInt64 63)).toInt64).toBitVec = s.toBitVec >>> (((8 * nI i).toInt64.toUInt64 &&& Int64.toUInt64 63).toBitVec % 64) := rfl
  have h1 := amt2 ⟨i, hi⟩
  simp only at h1
  rw [e, BitVec.ushiftRight_eq', BitVec.getLsbD_ushiftRight, h1]
  have h2 : (255 : Int64).toBitVec = 255#64 := rfl
  have h3 := bit255 ⟨k, hk⟩
  simp only at h3
  rw [h2, h3]
theorem ubt_eq (s : Int64) {i : Nat} (hi : i < 8) : ubt s i = sbt s i := by
  apply Int64.toBitVec_inj.mp
  apply BitVec.eq_of_getLsbD_eq
  intro k hk
  rw [ubt_bit s hi hk, sbt_bit s hi hk]
theorem byt_st (s : Int64) {i : Nat} (hi : i < 8) : (vp_nar .byte ((((s.toUInt64 >>> ((8 * nI i).toInt64.toUInt64 &&& Int64.toUInt64 63)).toInt64).toInt32).toInt8.toInt32)) &&& 255 = byt s i := by
  rw [pk_vb]
  unfold byt
  rw [← ubt_eq s hi]
  apply Int32.toBitVec_inj.mp
  apply BitVec.eq_of_getLsbD_eq
  intro k hk
  have h3 := bit255' ⟨k, hk⟩
  have h4 := bit255 ⟨k, by omega⟩
  simp only at h3 h4
  have h2 : (255 : Int32).toBitVec = 255#32 := rfl
  have h5 : (255 : Int64).toBitVec = 255#64 := rfl
  unfold ubt
  simp only [Int32.toBitVec_and, BitVec.getLsbD_and, h2, h3, Int8.toBitVec_toInt32, Int32.toBitVec_toInt8, Int64.toBitVec_toInt32, BitVec.getLsbD_signExtend, Int64.toBitVec_and, h5, h4]
  by_cases c : k < 8
  · have c2 : k < 32 := by omega
    have c3 : k < 64 := by omega
    simp [c, c2, c3]
  · have c3 : k < 64 := by omega
    simp [c, hk, c3]
theorem byt_nz {s : Int64} {i : Nat} (hi : i < 8) (h : sbt s i ≠ 0) : byt s i ≠ 0 := by
  intro e
  apply h
  apply Int64.toBitVec_inj.mp
  apply BitVec.eq_of_getLsbD_eq
  intro k hk
  rw [sbt_bit s hi hk]
  have e0 : (0 : Int64).toBitVec.getLsbD k = false := by
    show (0#64).getLsbD k = false
    simp
  rw [e0]
  by_cases c : k < 8
  · have e1 := congrArg (fun z : Int32 => z.toBitVec.getLsbD k) e
    have e2 : (0 : Int32).toBitVec.getLsbD k = false := by
      show (0#32).getLsbD k = false
      simp
    simp only [e2, byt, Int64.toBitVec_toInt32, BitVec.getLsbD_signExtend] at e1
    rw [sbt_bit s hi hk] at e1
    have c2 : k < 32 := by omega
    simpa [c, c2, hk] using e1
  · simp [c]
theorem lg0 (z : Int64) : (lg_cmp z 0 = 0) ↔ z = 0 := by
  unfold lg_cmp
  by_cases c : z > 0
  · rw [if_pos c]
    constructor
    · intro e; exact absurd e (by decide)
    · intro e; rw [e] at c; exact absurd c (by decide)
  · rw [if_neg c]
    by_cases c2 : z = 0
    · rw [if_pos c2]; exact ⟨fun _ => c2, fun _ => rfl⟩
    · rw [if_neg c2]
      exact ⟨fun e => absurd e (by decide), fun e => absurd e c2⟩
theorem sbt_0 (s : Int64) : s &&& 255 = sbt s 0 := by
  apply Int64.toBitVec_inj.mp
  apply BitVec.eq_of_getLsbD_eq
  intro k hk
  rw [sbt_bit s (by omega) hk, Int64.toBitVec_and, BitVec.getLsbD_and]
  have h5 : (255 : Int64).toBitVec = 255#64 := rfl
  have h4 := bit255 ⟨k, hk⟩
  simp only at h4
  rw [h5, h4]
  simp
def nbs (s : Int64) (n : Nat) : Prop := n ≤ 8 ∧ (∀ i, i < n → sbt s i ≠ 0) ∧ (n < 8 → sbt s n = 0)
theorem c_bytes0 (s : Int64) (S : xS) (d : Nat) : ∀ f i, i ≤ 8 → 8 - i < f → (∀ k, k < i → sbt s k ≠ 0) → ∃ n, l_P_bytesOf_2 d f s (nI i) S = some (nI n, S) ∧ nbs s n := by
  intro f
  induction f with
  | zero => intro i _ h; omega
  | succ f ih =>
    intro i hi hf hk
    show ∃ n, b_P_bytesOf_2 d (l_P_bytesOf_2 d f) s (nI i) S = _ ∧ _
    simp only [b_P_bytesOf_2]
    rw [show (8 : Int32) = nI 8 from rfl, ifle (by omega) (by omega)]
    by_cases c : 8 ≤ i
    · have e : i = 8 := by omega
      subst e
      rw [if_pos c]
      exact ⟨8, rfl, by omega, hk, fun h => by omega⟩
    · rw [if_neg c]
      have e1 : ((s.toUInt64 >>> ((nI 8 * nI i).toInt64.toUInt64 &&& Int64.toUInt64 63)).toInt64) &&& ((255 : Int64)) = sbt s i := ubt_eq s (by omega)
      rw [e1]
      by_cases c2 : sbt s i = 0
      · rw [if_pos ((lg0 _).mpr c2)]
        exact ⟨i, rfl, hi, hk, fun _ => c2⟩
      · rw [if_neg (fun e => c2 ((lg0 _).mp e)), nI_1]
        refine ih (i + 1) (by omega) (by omega) fun k hk' => ?_
        by_cases e : k = i
        · subst e; exact c2
        · exact hk k (by omega)
theorem c_bytes (s : Int64) (S : xS) {d : Nat} (hd : 0 < d) : ∃ n, f_P_bytesOf d s S = some (nI n, S) ∧ nbs s n := by
  obtain ⟨d, rfl⟩ : ∃ e, d = e + 1 := ⟨d - 1, by omega⟩
  exact c_bytes0 s S d xN 0 (by omega) (by unfold xN; omega) (fun k h => by omega)
theorem c_append {S : xS} {x B R T nb d : Nat} {g : Nat → Int32} {rts : Nat → Option Nat} {X : Nat → List nd} {G : Nat → Prop} (h : CX S x B R T nb g rts X G) (hnb : nb < 2048) (hd : 0 < d) (v : Int32) : ∃ S', f_P_append d (some x) v S = some ((), S') ∧ CX S' x B R T (nb + 1) (upd g nb (vp_nar .byte v)) rts X G ∧ (∀ b, G b → S'.1 b = S.1 b) ∧ S'.2 = S.2 := by
  obtain ⟨d, rfl⟩ : ∃ e, d = e + 1 := ⟨d - 1, by omega⟩
  have h1 := h.1
  have h2 := h.2.1
  have h3 := h.2.2.1
  have xB : x ≠ B := fun e => by rw [e, h2] at h1; simp [pobj, barr] at h1
  have xR : x ≠ R := fun e => by rw [e, h3] at h1; simp [pobj, rarr] at h1
  have BR : B ≠ R := fun e => by rw [e, h3] at h2; simp [barr, rarr] at h2
  have lB : xlen S (some B) 0 = some (nI 2048) := by simp [xlen, xarr, h2, barr]; rfl
  have stB : xstI S (some B) 0 (nI nb) (vp_nar .byte v) = some (xset S B (barr (upd g nb (vp_nar .byte v)))) := by
    simp only [xstI, xarr_of h2, Option.bind_some]
    rw [if_pos (nI_in hnb (by omega)), nI_clamp (by omega)]
    rfl
  have x1 : (xset S B (barr (upd g nb (vp_nar .byte v)))).1 x = some (pobj B nb R T) := by rw [xset_ne _ xB, h1]
  have px : xput (xset S B (barr (upd g nb (vp_nar .byte v)))) (some x) 0 1 (.int (nI (nb + 1))) = some (xset (xset S B (barr (upd g nb (vp_nar .byte v)))) x (pobj B (nb + 1) R T)) := by
    simp [xput, xobj, x1, pobj]
  refine ⟨xset (xset S B (barr (upd g nb (vp_nar .byte v)))) x (pobj B (nb + 1) R T), ?_, ?_, fun b hb => ?_, rfl⟩
  · show e_P_append d (some x) v S = _
    simp only [e_P_append, b_P_append_39, gP1 h1, gP0 h1, lB, Option.bind_some, if_neg (nI_pos (show nb < 2 ^ 31 by omega)), if_neg (nI_ge (show nb < 2048 by omega) (by omega)), stB, gP1 x1, nI_1, px]
  · have kp : ∀ b, b ≠ x → b ≠ B → (xset (xset S B (barr (upd g nb (vp_nar .byte v)))) x (pobj B (nb + 1) R T)).1 b = S.1 b := fun b e1 e2 => by rw [xset_ne _ e1, xset_ne _ e2]
    refine ⟨xset_at _ _ _, by rw [xset_ne _ (Ne.symm xB), xset_at], by rw [kp R (Ne.symm xR) (Ne.symm BR), h3], fun t ht => ?_, h.2.2.2.2.1, h.2.2.2.2.2.1, h.2.2.2.2.2.2.1, ?_, h.2.2.2.2.2.2.2.2⟩
    · obtain ⟨hh, T'⟩ := h.2.2.2.1 t ht
      exact ⟨hh, tr_kept T' fun a ha => kp a (h.node ht ha).1 (h.node ht ha).2.1⟩
    · exact h.2.2.2.2.2.2.2.1.kept rfl fun b hb => kp b (fun e => hb (.inr (.inl e))) (fun e => hb (.inr (.inr (.inl e))))
  · rw [xset_ne _ (fun e => h.2.2.2.2.2.2.2.2.1 (by rw [← e]; exact hb)), xset_ne _ (fun e => h.2.2.2.2.2.2.2.2.2.1 (by rw [← e]; exact hb))]
def nwb (nb : Nat) (bs : Nat → Int32) (s : Int64) (n : Nat) : Nat → Int32 := fun k => if nb ≤ k ∧ k < nb + n then byt s (k - nb) else bs k
def owrite (nb : Nat) (bs : Nat → Int32) (s : Int64) (r : Int32 ⊕ Nat) (nb' : Nat) (bs' : Nat → Int32) : Prop :=
  ∃ n, nbs s n ∧ ((n = 0 ∧ r = .inr 0 ∧ nb' = nb ∧ bs' = bs) ∨ (0 < n ∧ 2048 < nb + n ∧ r = .inr 1 ∧ nb' = nb ∧ bs' = bs) ∨ (0 < n ∧ nb + n ≤ 2048 ∧ r = .inl (nI nb) ∧ nb' = nb + n ∧ bs' = nwb nb bs s n))
theorem c_write0 {x B R T nb d : Nat} {rts : Nat → Option Nat} {X : Nat → List nd} {G : Nat → Prop} {s : Int64} {bs : Nat → Int32} {n : Nat} (hn : n ≤ 8) (hnb : nb + n ≤ 2048) (hd : 1 < d) : ∀ f i (S : xS) (g : Nat → Int32), i ≤ n → n - i < f → CX S x B R T (nb + i) g rts X G → (∀ k, k < nb + i → g k &&& 255 = nwb nb bs s n k) → ∃ S' g', l_P_write_50 d f (some x) s (nI n) (nI nb) (nI i) S = some (.inl (nI nb), S') ∧ CX S' x B R T (nb + n) g' rts X G ∧ (∀ k, k < nb + n → g' k &&& 255 = nwb nb bs s n k) ∧ (∀ b, G b → S'.1 b = S.1 b) ∧ S'.2 = S.2 := by
  intro f
  induction f with
  | zero => intro i S g _ h; omega
  | succ f ih =>
    intro i S g hi hf h hg
    show ∃ S' g', b_P_write_50 d (l_P_write_50 d f) (some x) s (nI n) (nI nb) (nI i) S = _ ∧ _
    simp only [b_P_write_50]
    rw [ifle (by omega) (by omega)]
    by_cases c : n ≤ i
    · have e : i = n := by omega
      subst e
      rw [if_pos c]
      exact ⟨S, g, rfl, h, hg, fun _ _ => rfl, rfl⟩
    · rw [if_neg c]
      obtain ⟨S1, f1, h1, k1, m1⟩ := c_append (d := d) h (by omega) (by omega) ((((s.toUInt64 >>> ((8 * nI i).toInt64.toUInt64 &&& Int64.toUInt64 63)).toInt64).toInt32).toInt8.toInt32)
      simp only [gPo h.1, f1, Option.bind_some, nI_1]
      obtain ⟨S', g', q1, q2, q3, q4, q5⟩ := ih (i + 1) S1 _ (by omega) (by omega) h1 (fun k hk => by
        by_cases e : k = nb + i
        · subst e
          rw [pk_us, byt_st s (by omega)]
          unfold nwb
          rw [if_pos ⟨by omega, by omega⟩]
          congr 1; omega
        · rw [pk_un e]; exact hg k (by omega))
      exact ⟨S', g', q1, q2, q3, fun b hb => by rw [q4 b hb, k1 b hb], by rw [q5, m1]⟩
theorem c_write {S : xS} {x nb d n m : Nat} {C : Nat → List chr} {bs : Nat → Int32} {G : Nat → Prop} (h : CI S x C nb bs G) (hd : 120 < d) (hr : rm S (n + 100) (m + 800)) (s : Int64) :
    ∃ r S' nb' bs', f_P_write d (some x) s S = some (r, S') ∧ owrite nb bs s r nb' bs' ∧ CI S' x C nb' bs' G ∧ (∀ b, G b → S'.1 b = S.1 b) ∧ rm S' n m := by
  obtain ⟨d, rfl⟩ : ∃ e, d = e + 1 := ⟨d - 1, by omega⟩
  obtain ⟨B, R, T, g, rts, X, h, hC, hg, w⟩ := h
  subst hC
  have h1 := h.1
  have hrs : rm S (n + 1) (m + 6) := hr.less (by omega) (by omega)
  have hskip : CI (xskip S 6) x (fun t => chs (X t)) nb bs G := ⟨B, R, T, g, rts, X, h.skip 6, rfl, hg, w⟩
  obtain ⟨q, hq, hb⟩ := c_bytes s S (d := d) (by omega)
  have hq8 := hb.1
  have w4 := w.2.2.2
  show ∃ r S' nb' bs', e_P_write d (some x) s S = some (r, S') ∧ _
  simp only [e_P_write, hq, Option.bind_some, gP1 h1]
  by_cases c : q = 0
  · subst c
    rw [if_pos (show nI 0 = 0 from rfl)]
    exact ⟨.inr 0, xskip S 6, nb, bs, thr (by omega) hrs, ⟨0, hb, .inl ⟨rfl, rfl, rfl, rfl⟩⟩, hskip, fun _ _ => rfl, hrs.skip⟩
  rw [if_neg (nI_ne0 (by omega) (by omega))]
  have e1 : ((2048 : Int32) - nI nb).toInt = 2048 - (nb : Int) := pk_sub31 (a := 2048) (by omega) (by omega)
  by_cases c2 : nb + q ≤ 2048
  · rw [if_pos (show nI q ≤ 2048 - nI nb by rw [Int32.le_iff_toInt_le, e1, nI_toInt (by omega)]; omega)]
    obtain ⟨S', g', q1, q2, q3, q4, q5⟩ := c_write0 (d := d) (s := s) (bs := bs) hq8 c2 (by omega) xN 0 S g (by omega) (by unfold xN; omega) h (fun k hk => by
      unfold nwb
      rw [if_neg (by omega)]; exact hg k hk)
    refine ⟨.inl (nI nb), S', nb + q, nwb nb bs s q, q1, ⟨q, hb, .inr (.inr ⟨by omega, c2, rfl, rfl, rfl⟩)⟩, ⟨B, R, T, g', rts, X, q2, rfl, q3, w.1, w.2.1, fun t ht c hc => by have := w.2.2.1 t ht c hc; omega, c2⟩, q4, (hr.less (by omega) (by omega)).same q5⟩
  · rw [if_neg (show ¬ nI q ≤ 2048 - nI nb by rw [Int32.le_iff_toInt_le, e1, nI_toInt (by omega)]; omega)]
    exact ⟨.inr 1, xskip S 6, nb, bs, thr (by omega) hrs, ⟨q, hb, .inr (.inl ⟨by omega, by omega, rfl, rfl, rfl⟩)⟩, hskip, fun _ _ => rfl, hrs.skip⟩
