/-! THE LAW -/
theorem sld {b L i : Nat} {xs : Nat → Int32} (h : i < L) (hL : L ≤ 3072) : xsld (b, L, xs) (nI i) = some (xs i) := by
  unfold xsld
  rw [if_pos (nI_in h (by omega)), nI_clamp (by omega)]
theorem cmp_in {S : xS} {o : Nat} {k b : Int32} {α : Type} (NEXT Z : Option α) (hv : k = 0 → xldL S (some o) 1 0 = some b.toInt64) : (if k = 0 then ((xldL S (some o) 1 0).bind fun v9 => (if (lg_cmp v9 b.toInt64) = 0 then NEXT else Z)) else NEXT) = NEXT := by
  by_cases c : k = 0
  · rw [if_pos c, hv c]
    simp only [Option.bind_some, lg_same]
    rfl
  · rw [if_neg c]
theorem law_loop {b L : Nat} {xs : Nat → Int32} (hL : L ≤ 3072) {x o d : Nat} {A : MA} (hd : 130 < d) : ∀ f c i (S : xS) (C : Nat → List chr) (nb : Nat) (bs : Nat → Int32), L < i + 6 * (c + 1) → i ≤ L + 6 → c < f → LI S x A o C nb bs → rm S (1100 * c) (9000 * c) → ∃ S', l_L_law_23 (b, L, xs) d f (some x) (some A.1) (some o) (nI i) S = some (1, S') := by
  intro f
  induction f with
  | zero => intro c i S C nb bs _ _ h; omega
  | succ f ih =>
    intro c i S C nb bs hc hi hf hI hr
    show ∃ S', b_L_law_23 (b, L, xs) d (l_L_law_23 (b, L, xs) d f) (some x) (some A.1) (some o) (nI i) S = some (1, S')
    unfold b_L_law_23
    have ec : (Int32.ofNat L - 6).toInt = (L : Int) - 6 := pk_sub31 (a := L) (b := 6) (by omega) (by omega)
    by_cases c0 : L < i + 6
    · rw [if_pos (show Int32.ofNat (b, L, xs).2.1 - 6 < nI i by rw [Int32.lt_iff_toInt_lt, nI_toInt (by omega)]; show (Int32.ofNat L - 6).toInt < _; rw [ec]; omega)]
      exact ⟨S, rfl⟩
    rw [if_neg (show ¬ Int32.ofNat (b, L, xs).2.1 - 6 < nI i by rw [Int32.lt_iff_toInt_lt, nI_toInt (by omega)]; show ¬ (Int32.ofNat L - 6).toInt < _; rw [ec]; omega)]
    obtain ⟨c, rfl⟩ : ∃ e, c = e + 1 := ⟨c - 1, by omega⟩
    have hr' : rm S (1100 * c + 1100) (9000 * c + 9000) := hr.less (by omega) (by omega)
    have s0 := sld (b := b) (xs := xs) (show i < L by omega) hL
    have s1 : xsld (b, L, xs) (nI i + 1) = some (xs (i + 1)) := by rw [show nI i + 1 = nI (i + 1) from nI_add i 1]; exact sld (b := b) (xs := xs) (show i + 1 < L by omega) hL
    have s2 : xsld (b, L, xs) (nI i + 2) = some (xs (i + 2)) := by rw [show nI i + 2 = nI (i + 2) from nI_add i 2]; exact sld (b := b) (xs := xs) (show i + 2 < L by omega) hL
    have s3 : xsld (b, L, xs) (nI i + 3) = some (xs (i + 3)) := by rw [show nI i + 3 = nI (i + 3) from nI_add i 3]; exact sld (b := b) (xs := xs) (show i + 3 < L by omega) hL
    have s4 : xsld (b, L, xs) (nI i + 4) = some (xs (i + 4)) := by rw [show nI i + 4 = nI (i + 4) from nI_add i 4]; exact sld (b := b) (xs := xs) (show i + 4 < L by omega) hL
    have s5 : xsld (b, L, xs) (nI i + 5) = some (xs (i + 5)) := by rw [show nI i + 5 = nI (i + 5) from nI_add i 5]; exact sld (b := b) (xs := xs) (show i + 5 < L by omega) hL
    have s6 : nI i + 6 = nI (i + 6) := nI_add i 6
    have nxt : ∀ S2 D nb' bs', LI S2 x A o D nb' bs' → rm S2 (1100 * c) (9000 * c) → ∃ S', l_L_law_23 (b, L, xs) d f (some x) (some A.1) (some o) (nI (i + 6)) S2 = some (1, S') := fun S2 D nb' bs' h1 h2 => ih c (i + 6) S2 D nb' bs' (by omega) (by omega) (by omega) h1 h2
    rw [s0]
    simp only [Option.bind_some]
    by_cases q0 : (xs i &&& 15) = 0
    · rw [if_pos q0]
      obtain ⟨k, S1, v, S2, D, nb', bs', f1, ⟨w1, hw1⟩, f2, ⟨w2, hw2⟩, f3, hv, hI2, hr2⟩ := st_write hI hd hr' (((xs (i + 1)).toInt64 <<< ((32 : Int32).toInt64 &&& 63)) ||| ((xs (i + 2)).toInt64 &&& ((4294967295 : Int64))))
      simp only [s1, s2, Option.bind_some, f1, hw1, f2, hw2, f3]
      rw [if_pos trivial, cmp_in _ _ hv]
      simp only [b_L_law_193, b_L_law_1082, s6]
      exact nxt S2 D nb' bs' hI2 hr2
    rw [if_neg q0]
    by_cases q1 : (xs i &&& 15) = 1
    · rw [if_pos q1]
      obtain ⟨k, S1, v, S2, D, nb', bs', f1, ⟨w1, hw1⟩, f2, ⟨w2, hw2⟩, f3, hv, hI2, hr2⟩ := st_put hI hd hr' (xs (i + 1)) (xs (i + 2)) (xs (i + 3)) (xs (i + 4)) (xs (i + 5))
      simp only [s1, s2, s3, s4, s5, Option.bind_some, f1, hw1, f2, hw2, f3]
      rw [if_pos trivial, cmp_in _ _ hv]
      simp only [b_L_law_297, b_L_law_1082, s6]
      exact nxt S2 D nb' bs' hI2 hr2
    rw [if_neg q1]
    by_cases q2 : (xs i &&& 15) = 2
    · rw [if_pos q2]
      obtain ⟨k, S1, v, S2, D, nb', bs', f1, ⟨w1, hw1⟩, f2, ⟨w2, hw2⟩, f3, hv, hI2, hr2⟩ := st_cut hI hd hr' (xs (i + 1)) (xs (i + 2)) (xs (i + 3)) (xs (i + 4))
      simp only [s1, s2, s3, s4, Option.bind_some, f1, hw1, f2, hw2, f3]
      rw [if_pos trivial, cmp_in _ _ hv]
      simp only [b_L_law_389, b_L_law_1082, s6]
      exact nxt S2 D nb' bs' hI2 hr2
    rw [if_neg q2]
    by_cases q3 : (xs i &&& 15) = 3
    · rw [if_pos q3]
      obtain ⟨k, S1, v, S2, D, nb', bs', f1, ⟨w1, hw1⟩, f2, ⟨w2, hw2⟩, f3, hv, hI2, hr2⟩ := st_paste hI hd hr' (xs (i + 1)) (xs (i + 2)) (xs (i + 3))
      simp only [s1, s2, s3, Option.bind_some, f1, hw1, f2, hw2, f3]
      rw [if_pos trivial, cmp_in _ _ hv]
      simp only [b_L_law_469, b_L_law_1082, s6]
      exact nxt S2 D nb' bs' hI2 hr2
    rw [if_neg q3]
    by_cases q4 : (xs i &&& 15) = 4
    · rw [if_pos q4]
      obtain ⟨k, S1, v, S2, D, nb', bs', f1, ⟨w1, hw1⟩, f2, ⟨w2, hw2⟩, f3, hv, hI2, hr2⟩ := st_copy hI hd hr' (xs (i + 1)) (xs (i + 2)) (xs (i + 3)) (xs (i + 4))
      simp only [s1, s2, s3, s4, Option.bind_some, f1, hw1, f2, hw2, f3]
      rw [if_pos trivial, cmp_in _ _ hv]
      simp only [b_L_law_561, b_L_law_1082, s6]
      exact nxt S2 D nb' bs' hI2 hr2
    rw [if_neg q4]
    by_cases q5 : (xs i &&& 15) = 5
    · rw [if_pos q5]
      obtain ⟨k, S1, v, S2, D, nb', bs', f1, ⟨w1, hw1⟩, f2, ⟨w2, hw2⟩, f3, hv, hI2, hr2⟩ := st_tag hI hd hr' (xs (i + 1)) (xs (i + 2)) (xs (i + 3)) (xs (i + 4)) (xs (i + 5))
      simp only [s1, s2, s3, s4, s5, Option.bind_some, f1, hw1, f2, hw2, f3]
      rw [if_pos trivial, cmp_in _ _ hv]
      simp only [b_L_law_665, b_L_law_1082, s6]
      exact nxt S2 D nb' bs' hI2 hr2
    rw [if_neg q5]
    by_cases q6 : (xs i &&& 15) = 6
    · rw [if_pos q6]
      obtain ⟨k, S1, v, S2, D, nb', bs', f1, ⟨w1, hw1⟩, f2, ⟨w2, hw2⟩, f3, hv, hI2, hr2⟩ := st_wipe hI hd hr' (xs (i + 1))
      simp only [s1, Option.bind_some, f1, hw1, f2, hw2, f3]
      rw [if_pos trivial, cmp_in _ _ hv]
      simp only [b_L_law_721, b_L_law_1082, s6]
      exact nxt S2 D nb' bs' hI2 hr2
    rw [if_neg q6]
    by_cases q7 : (xs i &&& 15) = 7
    · rw [if_pos q7]
      obtain ⟨v, S2, f1, ⟨w1, hw1⟩, ⟨w2, hw2⟩, f2, hI2, hr2⟩ := st_length hI hd hr' (xs (i + 1))
      simp only [s1, Option.bind_some, hw1, f1, hw2, f2]
      rw [if_pos trivial]
      simp only [b_L_law_1082, s6]
      exact nxt S2 C nb bs hI2 hr2
    rw [if_neg q7]
    by_cases q8 : (xs i &&& 15) = 8
    · rw [if_pos q8]
      obtain ⟨k, S1, v, S2, D, nb', bs', f1, ⟨w1, hw1⟩, f2, ⟨w2, hw2⟩, f3, hv, hI2, hr2⟩ := st_look hI hd hr' (xs (i + 1)) (xs (i + 2)) (xs (i + 3))
      simp only [s1, s2, s3, Option.bind_some, f1, hw1, f2, hw2, f3]
      rw [if_pos trivial, cmp_in _ _ hv]
      simp only [b_L_law_826, b_L_law_1082, s6]
      exact nxt S2 D nb' bs' hI2 hr2
    rw [if_neg q8]
    by_cases q9 : (xs i &&& 15) = 9
    · rw [if_pos q9]
      obtain ⟨k, S1, v, S2, D, nb', bs', f1, ⟨w1, hw1⟩, f2, ⟨w2, hw2⟩, f3, hv, hI2, hr2⟩ := st_piece hI hd hr' (xs (i + 1)) (xs (i + 2)) (xs (i + 3))
      simp only [s1, s2, s3, Option.bind_some, f1, hw1, f2, hw2, f3]
      rw [if_pos trivial, cmp_in _ _ hv]
      simp only [b_L_law_906, b_L_law_1082, s6]
      exact nxt S2 D nb' bs' hI2 hr2
    rw [if_neg q9]
    by_cases q10 : (xs i &&& 15) = 10
    · rw [if_pos q10]
      obtain ⟨k, S1, v, S2, D, nb', bs', f1, ⟨w1, hw1⟩, f2, ⟨w2, hw2⟩, f3, hv, hI2, hr2⟩ := st_find hI hd hr' (xs (i + 1)) (xs (i + 2)) (xs (i + 3))
      simp only [s1, s2, s3, Option.bind_some, f1, hw1, f2, hw2, f3]
      rw [if_pos trivial, cmp_in _ _ hv]
      simp only [b_L_law_986, b_L_law_1082, s6]
      exact nxt S2 D nb' bs' hI2 hr2
    rw [if_neg q10]
    by_cases q11 : (xs i &&& 15) = 11
    · rw [if_pos q11]
      obtain ⟨k, S1, v, S2, D, nb', bs', f1, ⟨w1, hw1⟩, f2, ⟨w2, hw2⟩, f3, hv, hI2, hr2⟩ := st_differ hI hd hr' (xs (i + 1)) (xs (i + 2))
      simp only [s1, s2, Option.bind_some, f1, hw1, f2, hw2, f3]
      rw [if_pos trivial, cmp_in _ _ hv]
      simp only [b_L_law_1054, b_L_law_1082, s6]
      exact nxt S2 D nb' bs' hI2 hr2
    rw [if_neg q11]
    by_cases q12 : (xs i &&& 15) = 12
    · rw [if_pos q12]
      obtain ⟨v, S2, f1, ⟨w1, hw1⟩, ⟨w2, hw2⟩, f2, hI2, hr2⟩ := st_count hI hd hr' (xs (i + 1))
      simp only [s1, Option.bind_some, hw1, f1, hw2, f2]
      rw [if_pos trivial]
      simp only [b_L_law_1082, s6]
      exact nxt S2 C nb bs hI2 hr2
    rw [if_neg q12]
    simp only [b_L_law_1082, s6]
    exact nxt S C nb bs hI (hr'.less (by omega) (by omega))
theorem rm.push {S : xS} {n m k : Nat} {o : xO} (h : rm S (n + 1) (m + k)) : rm (xpush S o k) n m := by
  unfold rm at h ⊢
  show S.2.1 + 1 + n ≤ S.2.2.2.1 ∧ S.2.2.1 + k + m ≤ S.2.2.2.2
  omega
theorem rm.room {S : xS} {n m k : Nat} (h : rm S (n + 1) (m + k)) : S.2.1 + 1 ≤ S.2.2.2.1 ∧ S.2.2.1 + k ≤ S.2.2.2.2 := by
  unfold rm at h
  omega
theorem rm_start (n N M : Nat) : rm (fun _ => none, n, 0, n + N, M) N M := by
  unfold rm
  show n + N ≤ n + N ∧ 0 + M ≤ M
  omega
theorem new_ok {S : xS} {n m ci : Nat} {fs : List Value} (h : rm S (n + 1) (m + fs.length)) : xnew S ci fs = some (S.2.1, xpush S (.inr (ci, fs)) fs.length) := by
  unfold xnew
  rw [if_pos h.room]
theorem start_I {S5 : xS} {n : Nat} (x2 : S5.1 n = some (pobj (n + 1) 0 (n + 1 + 1) (n + 1 + 2))) (c2 : S5.1 (n + 1) = some (barr fun _ => 0)) (d2 : S5.1 (n + 1 + 1) = some (rarr fun _ => none)) (t2 : S5.1 (n + 1 + 2) = some (.inr (4, [va_rf none])))
    (m4 : MX S5 (n + 4) (n + 5) (n + 5 + 1) (n + 5 + 2) (n + 5 + 3) (n + 5 + 4) (n + 5 + 5) 0 0 (fun _ => 0) (fun _ => 0) (fun _ => 0) (fun _ => 0) (fun _ => 0) (fun _ => 0)) (x5 : S5.1 (n + 11) = some (oarr fun _ => 0)) (b5 : bare S5) (z5 : S5.2.1 = n + 12) :
    LI S5 n (n + 4, n + 5, n + 5 + 1, n + 5 + 2, n + 5 + 3, n + 5 + 4, n + 5 + 5) (n + 11) (fun _ => []) 0 (fun _ => 0) := by
  have gA : ∀ q, GA (n + 4, n + 5, n + 5 + 1, n + 5 + 2, n + 5 + 3, n + 5 + 4, n + 5 + 5) (n + 11) q → n + 4 ≤ q ∧ q < n + 12 := by
    intro q hq
    simp only [GA, AL, List.mem_cons, List.not_mem_nil, or_false] at hq
    omega
  have w0 : sm (fun _ => ([] : List chr).length) 16 = 0 := rfl
  have w1 : sm (fun _ => np none ([] : List chr)) 16 = 0 := rfl
  have of : ∀ t, off (fun _ => ([] : List chr)) t = 0 := by
    intro t
    induction t with
    | zero => rfl
    | succ t ih => exact ih
  refine ⟨⟨n + 1, n + 1 + 1, n + 1 + 2, fun _ => 0, fun _ => none, fun _ => [], ⟨x2, c2, d2, fun t _ => ⟨0, tr_nil _⟩, fun t _ => trivial, fun t _ => ⟨List.nodup_nil, fun a ha => absurd ha (List.not_mem_nil)⟩, fun t u _ _ _ a ha => absurd ha (List.not_mem_nil), ⟨?_, ⟨none, [], t2, rfl, List.nodup_nil, fun a ha => absurd ha (List.not_mem_nil)⟩, ?_, b5⟩, ?_, ?_, ?_⟩, rfl, fun i hi => absurd hi (Nat.not_lt_zero i), ?_, ?_, fun t _ c hc => absurd hc (List.not_mem_nil), Nat.zero_le _⟩, ⟨0, [], fun _ => 0, fun _ => 0, fun _ => 0, fun _ => 0, fun _ => 0, fun _ => 0, m4, ?_, ?_, fun i hi => absurd hi (Nat.not_lt_zero i), ?_⟩, ⟨_, x5⟩, ?_, fun i hi => absurd hi (Nat.not_lt_zero i)⟩
  · rintro (g | g | g | g | ⟨t, _, ha⟩)
    · have := gA _ g; omega
    · omega
    · omega
    · omega
    · exact absurd ha (List.not_mem_nil)
  · rintro a (g | g | g | g | ⟨t, _, ha⟩)
    · have := gA _ g; omega
    · omega
    · omega
    · omega
    · exact absurd ha (List.not_mem_nil)
  · intro g; have := gA _ g; omega
  · intro g; have := gA _ g; omega
  · intro g; have := gA _ g; omega
  · exact Nat.le_trans (Nat.le_of_eq w0) (Nat.zero_le _)
  · exact Nat.le_trans (Nat.le_of_eq w1) (Nat.zero_le _)
  · exact ⟨fun u _ => (congrArg nI (of u)).symm, fun t _ i y hy => by simp at hy⟩
  · exact fun i y hy => by simp at hy
  · rw [of]; omega
  · simp only [AL, List.mem_cons, List.not_mem_nil, or_false]
    omega
theorem main_g (b L : Nat) (xs : Nat → Int32) (hL : L ≤ 3072) (n c N M : Nat) (hc : L < 6 * (c + 1)) (hf : c < xN) (hN : 1100 * c ≤ N) (hM : 9000 * c ≤ M) (S0 : xS) (e0 : S0.2.1 = n) (b0 : bare S0) (r0 : rm S0 (N + 12) (M + 20527)) : ∃ S', e_L_law (b, L, xs) 299 S0 = some (1, S') := by
  have q1 : rm S0 (N + 11 + 1) (M + 20523 + 4) := r0.less (by omega) (by omega)
  have a1 : xnew S0 0 [.null, .int 0, .null, .null] = some (S0.2.1, xpush S0 (.inr (0, [.null, .int 0, .null, .null])) 4) := new_ok q1
  have x1 := push_at S0 (.inr (0, [.null, .int 0, .null, .null])) 4
  have b1 := b0.push (.inr (0, [.null, .int 0, .null, .null])) 4
  have z1 : (xpush S0 (.inr (0, [.null, .int 0, .null, .null])) 4).2.1 = n + 1 := by show S0.2.1 + 1 = _; omega
  have r1 : rm (xpush S0 (.inr (0, [.null, .int 0, .null, .null])) 4) (N + 11) (M + 20523) := q1.push
  generalize xpush S0 (.inr (0, [.null, .int 0, .null, .null])) 4 = S1 at a1 x1 b1 z1 r1
  rw [e0] at x1
  obtain ⟨S2, f2, x2, c2, d2, t2, k2, b2, z2, r2⟩ := p_init (d := 299) (n := N + 8) (m := M + 18458) x1 (by omega) b1 (r1.less (by omega) (by omega)) (by omega)
  have q3 : rm S2 (N + 7 + 1) (M + 18450 + 8) := r2.less (by omega) (by omega)
  have a3 : xnew S2 5 [.int 0, .int 0, .null, .null, .null, .null, .null, .null] = some (S2.2.1, xpush S2 (.inr (5, [.int 0, .int 0, .null, .null, .null, .null, .null, .null])) 8) := new_ok q3
  have x3 := push_at S2 (.inr (5, [.int 0, .int 0, .null, .null, .null, .null, .null, .null])) 8
  have k3 : ∀ q, q < n + 4 → (xpush S2 (.inr (5, [.int 0, .int 0, .null, .null, .null, .null, .null, .null])) 8).1 q = S2.1 q := fun q hq => push_ne _ _ (by omega)
  have b3 := b2.push (.inr (5, [.int 0, .int 0, .null, .null, .null, .null, .null, .null])) 8
  have z3 : (xpush S2 (.inr (5, [.int 0, .int 0, .null, .null, .null, .null, .null, .null])) 8).2.1 = n + 5 := by show S2.2.1 + 1 = _; omega
  have r3 : rm (xpush S2 (.inr (5, [.int 0, .int 0, .null, .null, .null, .null, .null, .null])) 8) (N + 7) (M + 18450) := q3.push
  generalize xpush S2 (.inr (5, [.int 0, .int 0, .null, .null, .null, .null, .null, .null])) 8 = S3 at a3 x3 k3 b3 z3 r3
  have e2 : S2.2.1 = n + 4 := by omega
  rw [e2] at x3
  obtain ⟨S4, f4, m4, k4, b4, z4, r4⟩ := m_init (d := 299) (n := N + 1) (m := M + 1) x3 (by omega) b3 (r3.less (by omega) (by omega)) (by omega)
  have a5 : xnewa S4 1 1 (.inr (.inl (fun _ => 0))) = some (S4.2.1, xpush S4 (oarr fun _ => 0) 1) := newa_ok (n := 1) (by omega) r4.room _
  have x5 := push_at S4 (oarr fun _ => 0) 1
  have k5 : ∀ q, q < n + 11 → (xpush S4 (oarr fun _ => 0) 1).1 q = S4.1 q := fun q hq => push_ne _ _ (by omega)
  have b5 := b4.push (oarr fun _ => 0) 1
  have z5 : (xpush S4 (oarr fun _ => 0) 1).2.1 = n + 12 := by show S4.2.1 + 1 = _; omega
  have r5 : rm (xpush S4 (oarr fun _ => 0) 1) N M := r4.push
  generalize xpush S4 (oarr fun _ => 0) 1 = S5 at a5 x5 k5 b5 z5 r5
  have e4 : S4.2.1 = n + 11 := by omega
  rw [e4] at x5
  rw [z3] at m4
  rw [z1] at x2 c2 d2 t2
  have g5 : ∀ q, q < n + 4 → S5.1 q = S2.1 q := fun q hq => by rw [k5 q (by omega), k4 q (by omega) (by omega), k3 q hq]
  obtain ⟨m0, m1, m2, m3, m5, m6, m7, m8⟩ := m4
  have hI := start_I (S5 := S5) (n := n) (by rw [g5 _ (by omega), x2]) (by rw [g5 _ (by omega), c2]) (by rw [g5 _ (by omega), d2]) (by rw [g5 _ (by omega), t2])
    ⟨by rw [k5 _ (by omega), m0], by rw [k5 _ (by omega), m1], by rw [k5 _ (by omega), m2], by rw [k5 _ (by omega), m3], by rw [k5 _ (by omega), m5], by rw [k5 _ (by omega), m6], by rw [k5 _ (by omega), m7], m8⟩ x5 b5 z5
  obtain ⟨S', hl⟩ := law_loop (b := b) (L := L) (xs := xs) hL (d := 299) (by omega) xN c 0 S5 _ _ _ (by omega) (by omega) hf hI (r5.less hN hM)
  have hl' : l_L_law_23 (b, L, xs) 299 xN (some n) (some (n + 4)) (some (n + 11)) 0 S5 = some (1, S') := hl
  refine ⟨S', ?_⟩
  rw [e0] at a1
  rw [e2] at a3
  rw [e4] at a5
  simp only [e_L_law, a1, Option.bind_some, f2, a3, f4, a5, hl']
theorem main_f (b L : Nat) (xs : Nat → Int32) (hL : L ≤ 3072) (n N M : Nat) (hN : 563212 ≤ N) (hM : 4628527 ≤ M) : ∃ S', f_L_law (b, L, xs) 300 ((fun _ => none, n, 0, n + N, M) : xS) = some (1, S') :=
  main_g b L xs hL n 512 563200 4608000 (by omega) (by unfold xN; omega) (by omega) (by omega) (fun _ => none, n, 0, n + N, M) rfl (fun _ _ => rfl) ((rm_start n N M).less (by omega) (by omega))
