/-! THE START -/
theorem push_at (S : xS) (o : xO) (k : Nat) : (xpush S o k).1 S.2.1 = some o := va_up_self _ _ _
theorem push_ne {S : xS} (o : xO) (k : Nat) {b : Nat} (h : b ≠ S.2.1) : (xpush S o k).1 b = S.1 b := va_up_ne _ _ h
theorem newa_ok {S : xS} {i n : Nat} (hn : n ≤ 1000000) (hr : S.2.1 + 1 ≤ S.2.2.2.1 ∧ S.2.2.1 + n ≤ S.2.2.2.2) (g : (Nat → Int32) ⊕ (Nat → Int64) ⊕ (Nat → UInt32) ⊕ (Nat → UInt64) ⊕ (Nat → Option Nat)) : xnewa S i (nI n) g = some (S.2.1, xpush S (.inl (i, (n, g))) n) := by
  unfold xnewa
  rw [nI_clamp (by omega), if_pos ⟨nI_pos (by omega), hn, hr.1, hr.2⟩]
/-- nothing is known behind the end -/
def bare (S : xS) : Prop := ∀ b, S.2.1 ≤ b → S.1 b = none
theorem bare.push {S : xS} (h : bare S) (o : xO) (k : Nat) : bare (xpush S o k) := fun b hb => by
  have hb' : S.2.1 + 1 ≤ b := hb
  rw [push_ne _ _ (by omega)]; exact h b (by omega)
theorem bare.set {S : xS} (h : bare S) {a : Nat} (ha : a < S.2.1) (o : xO) : bare (xset S a o) := fun b hb => by
  have hb' : S.2.1 ≤ b := hb
  rw [xset_ne _ (by omega)]; exact h b hb'
theorem p_init {S : xS} {x d n m : Nat} (hx : S.1 x = some (.inr (0, [.null, .int 0, .null, .null]))) (hxl : x < S.2.1) (hb : bare S) (hr : rm S (n + 3) (m + 2065)) (hd : 1 < d) :
    ∃ S', f_P_init d (some x) S = some ((), S') ∧ S'.1 x = some (pobj S.2.1 0 (S.2.1 + 1) (S.2.1 + 2)) ∧ S'.1 S.2.1 = some (barr fun _ => 0) ∧ S'.1 (S.2.1 + 1) = some (rarr fun _ => none) ∧ S'.1 (S.2.1 + 2) = some (.inr (4, [va_rf none])) ∧ (∀ b, b < S.2.1 → b ≠ x → S'.1 b = S.1 b) ∧ bare S' ∧ S'.2.1 = S.2.1 + 3 ∧ rm S' n m := by
  obtain ⟨d, rfl⟩ : ∃ e, d = e + 1 := ⟨d - 1, by omega⟩
  obtain ⟨d, rfl⟩ : ∃ e, d = e + 1 := ⟨d - 1, by omega⟩
  unfold rm at hr
  have f1 : xnewa S 0 2048 (.inl fun _ => 0) = some (S.2.1, xpush S (barr fun _ => 0) 2048) := newa_ok (n := 2048) (by omega) ⟨by omega, by omega⟩ _
  have x1 : (xpush S (barr fun _ => 0) 2048).1 x = some (.inr (0, [.null, .int 0, .null, .null])) := by rw [push_ne _ _ (by omega), hx]
  have f2 : xput (xpush S (barr fun _ => 0) 2048) (some x) 0 0 (va_rf (some S.2.1)) = some (xset (xpush S (barr fun _ => 0) 2048) x (.inr (0, [va_rf (some S.2.1), .int 0, .null, .null]))) := by simp [xput, xobj, x1]
  have c2 : (xset (xpush S (barr fun _ => 0) 2048) x (.inr (0, [va_rf (some S.2.1), .int 0, .null, .null]))).2 = (S.2.1 + 1, S.2.2.1 + 2048, S.2.2.2) := rfl
  have k2 : ∀ b, b ≠ x → (xset (xpush S (barr fun _ => 0) 2048) x (.inr (0, [va_rf (some S.2.1), .int 0, .null, .null]))).1 b = (xpush S (barr fun _ => 0) 2048).1 b := fun b hb => xset_ne _ hb
  have x2 := xset_at (xpush S (barr fun _ => 0) 2048) x (.inr (0, [va_rf (some S.2.1), .int 0, .null, .null]))
  have b2 : bare (xset (xpush S (barr fun _ => 0) 2048) x (.inr (0, [va_rf (some S.2.1), .int 0, .null, .null]))) := (hb.push _ _).set (by show x < S.2.1 + 1; omega) _
  generalize xset (xpush S (barr fun _ => 0) 2048) x (.inr (0, [va_rf (some S.2.1), .int 0, .null, .null])) = S2 at f2 c2 k2 x2 b2
  have e2 : S2.2.1 = S.2.1 + 1 := by rw [c2]
  have f3 : xnewa S2 2 16 (.inr (.inr (.inr (.inr (fun _ => none))))) = some (S2.2.1, xpush S2 (rarr fun _ => none) 16) := newa_ok (n := 16) (by omega) (by rw [c2]; exact ⟨by show S.2.1 + 1 + 1 ≤ S.2.2.2.1; omega, by show S.2.2.1 + 2048 + 16 ≤ S.2.2.2.2; omega⟩) _
  have x3 : (xpush S2 (rarr fun _ => none) 16).1 x = some (.inr (0, [va_rf (some S.2.1), .int 0, .null, .null])) := by rw [push_ne _ _ (by omega), x2]
  have f4 : xput (xpush S2 (rarr fun _ => none) 16) (some x) 0 2 (va_rf (some S2.2.1)) = some (xset (xpush S2 (rarr fun _ => none) 16) x (.inr (0, [va_rf (some S.2.1), .int 0, va_rf (some S2.2.1), .null]))) := by simp [xput, xobj, x3]
  have c4 : (xset (xpush S2 (rarr fun _ => none) 16) x (.inr (0, [va_rf (some S.2.1), .int 0, va_rf (some S2.2.1), .null]))).2 = (S2.2.1 + 1, S2.2.2.1 + 16, S2.2.2.2) := rfl
  have k4 : ∀ b, b ≠ x → (xset (xpush S2 (rarr fun _ => none) 16) x (.inr (0, [va_rf (some S.2.1), .int 0, va_rf (some S2.2.1), .null]))).1 b = (xpush S2 (rarr fun _ => none) 16).1 b := fun b hb => xset_ne _ hb
  have x4 := xset_at (xpush S2 (rarr fun _ => none) 16) x (.inr (0, [va_rf (some S.2.1), .int 0, va_rf (some S2.2.1), .null]))
  have b4 : bare (xset (xpush S2 (rarr fun _ => none) 16) x (.inr (0, [va_rf (some S.2.1), .int 0, va_rf (some S2.2.1), .null]))) := (b2.push _ _).set (by show x < S2.2.1 + 1; omega) _
  generalize xset (xpush S2 (rarr fun _ => none) 16) x (.inr (0, [va_rf (some S.2.1), .int 0, va_rf (some S2.2.1), .null])) = S4 at f4 c4 k4 x4 b4
  have e4 : S4.2.1 = S.2.1 + 2 := by rw [c4]; show S2.2.1 + 1 = _; omega
  have g4 : S4.2 = (S.2.1 + 2, S.2.2.1 + 2064, S.2.2.2) := by rw [c4, c2]
  have f5 : xnew S4 4 [.null] = some (S4.2.1, xpush S4 (.inr (4, [va_rf none])) 1) := if_pos (by rw [g4]; exact ⟨by show S.2.1 + 2 + 1 ≤ S.2.2.2.1; omega, by show S.2.2.1 + 2064 + 1 ≤ S.2.2.2.2; omega⟩)
  have x5 : (xpush S4 (.inr (4, [va_rf none])) 1).1 x = some (.inr (0, [va_rf (some S.2.1), .int 0, va_rf (some S2.2.1), .null])) := by rw [push_ne _ _ (by omega), x4]
  have f6 : xput (xpush S4 (.inr (4, [va_rf none])) 1) (some x) 0 3 (va_rf (some S4.2.1)) = some (xset (xpush S4 (.inr (4, [va_rf none])) 1) x (.inr (0, [va_rf (some S.2.1), .int 0, va_rf (some S2.2.1), va_rf (some S4.2.1)]))) := by simp [xput, xobj, x5]
  refine ⟨xset (xpush S4 (.inr (4, [va_rf none])) 1) x (.inr (0, [va_rf (some S.2.1), .int 0, va_rf (some S2.2.1), va_rf (some S4.2.1)])), ?_, ?_, ?_, ?_, ?_, ?_, ?_, ?_, ?_⟩
  · show e_P_init (d + 1) (some x) S = _
    simp only [e_P_init, xcase_some, f1, f2, f3, f4, f5, f_T_init, e_T_init, f6, Option.bind_some]
  · rw [xset_at, e2, e4]; rfl
  · rw [xset_ne _ (by omega), push_ne _ _ (by omega), k4 _ (by omega), push_ne _ _ (by omega), k2 _ (by omega), push_at]
  · rw [xset_ne _ (by omega), push_ne _ _ (by omega), k4 _ (by omega), ← e2, push_at]
  · rw [xset_ne _ (by omega), ← e4, push_at]
  · intro b hb1 hb2
    rw [xset_ne _ hb2, push_ne _ _ (by omega), k4 _ hb2, push_ne _ _ (by omega), k2 _ hb2, push_ne _ _ (by omega)]
  · exact (b4.push _ _).set (by show x < S4.2.1 + 1; omega) _
  · show S4.2.1 + 1 = _; omega
  · unfold rm
    have g5 : (xset (xpush S4 (.inr (4, [va_rf none])) 1) x (.inr (0, [va_rf (some S.2.1), .int 0, va_rf (some S2.2.1), va_rf (some S4.2.1)]))).2 = (S.2.1 + 3, S.2.2.1 + 2065, S.2.2.2) := by
      show (S4.2.1 + 1, S4.2.2.1 + 1, S4.2.2.2) = _
      rw [g4]
    rw [g5]
    show S.2.1 + 3 + n ≤ S.2.2.2.1 ∧ S.2.2.1 + 2065 + m ≤ S.2.2.2.2
    omega
/-- one array of the reference -/
theorem arr_step {S : xS} {mm n k j m q : Nat} {fs : List Value} (hx : S.1 mm = some (.inr (5, fs))) (hl : mm < S.2.1) (hb : bare S) (hk : k < fs.length) (hn : n ≤ 1000000) (hr : rm S (m + 1) (q + n)) :
    ∃ S', xnewa S 3 (nI n) (.inl fun _ => 0) = some (S.2.1, xpush S (iarr n fun _ => 0) n) ∧ xput (xpush S (iarr n fun _ => 0) n) (some mm) 5 k (va_rf (some S.2.1)) = some S' ∧ S'.1 mm = some (.inr (5, fs.set k (va_rf (some S.2.1)))) ∧ S'.1 S.2.1 = some (iarr n fun _ => 0) ∧ (∀ b, b ≠ mm → b ≠ S.2.1 → S'.1 b = S.1 b) ∧ bare S' ∧ S'.2.1 = S.2.1 + 1 ∧ rm S' m q := by
  unfold rm at hr
  have x1 : (xpush S (iarr n fun _ => 0) n).1 mm = some (.inr (5, fs)) := by rw [push_ne _ _ (by omega), hx]
  refine ⟨xset (xpush S (iarr n fun _ => 0) n) mm (.inr (5, fs.set k (va_rf (some S.2.1)))), newa_ok hn ⟨by omega, by omega⟩ _, ?_, xset_at _ _ _, ?_, ?_, (hb.push _ _).set (by show mm < S.2.1 + 1; omega) _, rfl, ?_⟩
  · simp [xput, xobj, x1, hk]
  · rw [xset_ne _ (by omega), push_at]
  · intro b h1 h2
    rw [xset_ne _ h1, push_ne _ _ h2]
  · unfold rm
    show S.2.1 + 1 + m ≤ S.2.2.2.1 ∧ S.2.2.1 + n + q ≤ S.2.2.2.2
    omega
theorem m_init {S : xS} {mm d n m : Nat} (hx : S.1 mm = some (.inr (5, [.int 0, .int 0, .null, .null, .null, .null, .null, .null]))) (hl : mm < S.2.1) (hb : bare S) (hr : rm S (n + 6) (m + 18449)) (hd : 0 < d) :
    ∃ S', f_M_init d (some mm) S = some ((), S') ∧ MX S' mm S.2.1 (S.2.1 + 1) (S.2.1 + 2) (S.2.1 + 3) (S.2.1 + 4) (S.2.1 + 5) 0 0 (fun _ => 0) (fun _ => 0) (fun _ => 0) (fun _ => 0) (fun _ => 0) (fun _ => 0) ∧ (∀ b, b < S.2.1 → b ≠ mm → S'.1 b = S.1 b) ∧ bare S' ∧ S'.2.1 = S.2.1 + 6 ∧ rm S' n m := by
  obtain ⟨d, rfl⟩ : ∃ e, d = e + 1 := ⟨d - 1, by omega⟩
  obtain ⟨S1, a1, p1, x1, c1, k1, b1, z1, r1⟩ := arr_step (k := 2) (n := 2048) (m := n + 5) (q := m + 16401) (j := 0) hx hl hb (by simp) (by omega) (hr.less (by omega) (by omega))
  obtain ⟨S2, a2, p2, x2, c2, k2, b2, z2, r2⟩ := arr_step (k := 3) (n := 17) (m := n + 4) (q := m + 16384) (j := 0) x1 (by omega) b1 (by simp) (by omega) (r1.less (by omega) (by omega))
  obtain ⟨S3, a3, p3, x3, c3, k3, b3, z3, r3⟩ := arr_step (k := 4) (n := 4096) (m := n + 3) (q := m + 12288) (j := 0) x2 (by omega) b2 (by simp) (by omega) (r2.less (by omega) (by omega))
  obtain ⟨S4, a4, p4, x4, c4, k4, b4, z4, r4⟩ := arr_step (k := 5) (n := 4096) (m := n + 2) (q := m + 8192) (j := 0) x3 (by omega) b3 (by simp) (by omega) (r3.less (by omega) (by omega))
  obtain ⟨S5, a5, p5, x5, c5, k5, b5, z5, r5⟩ := arr_step (k := 6) (n := 4096) (m := n + 1) (q := m + 4096) (j := 0) x4 (by omega) b4 (by simp) (by omega) (r4.less (by omega) (by omega))
  obtain ⟨S6, a6, p6, x6, c6, k6, b6, z6, r6⟩ := arr_step (k := 7) (n := 4096) (m := n) (q := m) (j := 0) x5 (by omega) b5 (by simp) (by omega) (r5.less (by omega) (by omega))
  refine ⟨S6, ?_, ⟨?_, ?_, ?_, ?_, ?_, ?_, ?_, ?_⟩, ?_, b6, by omega, r6⟩
  · show e_M_init d (some mm) S = _
    simp only [e_M_init, xcase_some]
    rw [show (2048 : Int32) = nI 2048 from rfl, a1]
    simp only [Option.bind_some, p1]
    rw [show (17 : Int32) = nI 17 from rfl, a2]
    simp only [Option.bind_some, p2]
    rw [show (4096 : Int32) = nI 4096 from rfl, a3]
    simp only [Option.bind_some, p3, a4, p4, a5, p5, a6, p6]
  · rw [x6, mobj]
    have e1 : S1.2.1 = S.2.1 + 1 := z1
    have e2 : S2.2.1 = S.2.1 + 2 := by omega
    have e3 : S3.2.1 = S.2.1 + 3 := by omega
    have e4 : S4.2.1 = S.2.1 + 4 := by omega
    have e5 : S5.2.1 = S.2.1 + 5 := by omega
    rw [e1, e2, e3, e4, e5]
    rfl
  · rw [k6 _ (by omega) (by omega), k5 _ (by omega) (by omega), k4 _ (by omega) (by omega), k3 _ (by omega) (by omega), k2 _ (by omega) (by omega), c1]
  · rw [k6 _ (by omega) (by omega), k5 _ (by omega) (by omega), k4 _ (by omega) (by omega), k3 _ (by omega) (by omega), ← z1, c2]
  · have e : S.2.1 + 2 = S2.2.1 := by omega
    rw [e, k6 _ (by omega) (by omega), k5 _ (by omega) (by omega), k4 _ (by omega) (by omega), c3]
  · have e : S.2.1 + 3 = S3.2.1 := by omega
    rw [e, k6 _ (by omega) (by omega), k5 _ (by omega) (by omega), c4]
  · have e : S.2.1 + 4 = S4.2.1 := by omega
    rw [e, k6 _ (by omega) (by omega), c5]
  · have e : S.2.1 + 5 = S5.2.1 := by omega
    rw [e, c6]
  · simp only [List.nodup_cons, List.mem_cons, List.not_mem_nil, or_false, not_or, not_false_eq_true, List.nodup_nil, and_true]
    omega
  · intro b hb1 hb2
    rw [k6 _ hb2 (by omega), k5 _ hb2 (by omega), k4 _ hb2 (by omega), k3 _ hb2 (by omega), k2 _ hb2 (by omega), k1 _ hb2 (by omega)]
