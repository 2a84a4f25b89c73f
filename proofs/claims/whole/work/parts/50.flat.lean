/-! THE REFERENCE'S ARRAYS -/
def mobj (code : Int32) (nb bu be so ma ks km : Nat) : xO := .inr (5, [.int code, .int (nI nb), va_rf (some bu), va_rf (some be), va_rf (some so), va_rf (some ma), va_rf (some ks), va_rf (some km)])
def iarr (n : Nat) (g : Nat → Int32) : xO := .inl (3, (n, .inl g))
def MX (S : xS) (mm bu be so ma ks km : Nat) (code : Int32) (nb : Nat) (gb gg gs gm g5 g6 : Nat → Int32) : Prop :=
  S.1 mm = some (mobj code nb bu be so ma ks km) ∧ S.1 bu = some (iarr 2048 gb) ∧ S.1 be = some (iarr 17 gg) ∧ S.1 so = some (iarr 4096 gs) ∧ S.1 ma = some (iarr 4096 gm) ∧ S.1 ks = some (iarr 4096 g5) ∧ S.1 km = some (iarr 4096 g6) ∧ [bu, be, so, ma, ks, km].Nodup
def MF (mm bu be so ma ks km : Nat) (S S' : xS) : Prop := (∀ b, b ∉ [mm, bu, be, so, ma, ks, km] → S'.1 b = S.1 b) ∧ S'.2 = S.2
theorem MF.rfl' {mm bu be so ma ks km : Nat} {S : xS} : MF mm bu be so ma ks km S S := ⟨fun _ _ => rfl, rfl⟩
theorem MF.trans {mm bu be so ma ks km : Nat} {S S1 S2 : xS} (h1 : MF mm bu be so ma ks km S S1) (h2 : MF mm bu be so ma ks km S1 S2) : MF mm bu be so ma ks km S S2 :=
  ⟨fun b hb => by rw [h2.1 b hb, h1.1 b hb], by rw [h2.2, h1.2]⟩
theorem MF.set {mm bu be so ma ks km a : Nat} {S : xS} {o : xO} (h : a ∈ [mm, bu, be, so, ma, ks, km]) : MF mm bu be so ma ks km S (xset S a o) :=
  ⟨fun b hb => xset_ne _ (fun e => hb (by rw [e]; exact h)), rfl⟩
theorem ldA {S : xS} {a n k : Nat} {g : Nat → Int32} (h : S.1 a = some (iarr n g)) (hk : k < n) (hn : n < 2 ^ 31) : xldI S (some a) 3 (nI k) = some (g k) := by
  simp only [xldI, xarr_of h, Option.bind_some]
  rw [if_pos (nI_in hk hn), nI_clamp (by omega)]
theorem stA {S : xS} {a n k : Nat} {g : Nat → Int32} (h : S.1 a = some (iarr n g)) (hk : k < n) (hn : n < 2 ^ 31) (v : Int32) : xstI S (some a) 3 (nI k) v = some (xset S a (iarr n (upd g k v))) := by
  simp only [xstI, xarr_of h, Option.bind_some]
  rw [if_pos (nI_in hk hn), nI_clamp (by omega)]
  rfl
section MXs
variable {S : xS} {mm bu be so ma ks km nb : Nat} {code : Int32} {gb gg gs gm g5 g6 : Nat → Int32}
theorem gM0 (h : MX S mm bu be so ma ks km code nb gb gg gs gm g5 g6) : xgI S (some mm) 5 0 = some code := by simp [xgI, xobj, h.1, mobj]
theorem gM1 (h : MX S mm bu be so ma ks km code nb gb gg gs gm g5 g6) : xgI S (some mm) 5 1 = some (nI nb) := by simp [xgI, xobj, h.1, mobj]
theorem gM2 (h : MX S mm bu be so ma ks km code nb gb gg gs gm g5 g6) : xgR S (some mm) 5 2 = some (some bu) := by simp [xgR, xobj, h.1, mobj, va_rf]
theorem gM3 (h : MX S mm bu be so ma ks km code nb gb gg gs gm g5 g6) : xgR S (some mm) 5 3 = some (some be) := by simp [xgR, xobj, h.1, mobj, va_rf]
theorem gM4 (h : MX S mm bu be so ma ks km code nb gb gg gs gm g5 g6) : xgR S (some mm) 5 4 = some (some so) := by simp [xgR, xobj, h.1, mobj, va_rf]
theorem gM5 (h : MX S mm bu be so ma ks km code nb gb gg gs gm g5 g6) : xgR S (some mm) 5 5 = some (some ma) := by simp [xgR, xobj, h.1, mobj, va_rf]
theorem gM6 (h : MX S mm bu be so ma ks km code nb gb gg gs gm g5 g6) : xgR S (some mm) 5 6 = some (some ks) := by simp [xgR, xobj, h.1, mobj, va_rf]
theorem gM7 (h : MX S mm bu be so ma ks km code nb gb gg gs gm g5 g6) : xgR S (some mm) 5 7 = some (some km) := by simp [xgR, xobj, h.1, mobj, va_rf]
theorem gMo (h : MX S mm bu be so ma ks km code nb gb gg gs gm g5 g6) : ∃ w, xobj S (some mm) 5 = some w := ⟨_, xobj_of h.1⟩
theorem MX.ne (h : MX S mm bu be so ma ks km code nb gb gg gs gm g5 g6) : (mm ≠ bu ∧ mm ≠ be ∧ mm ≠ so ∧ mm ≠ ma ∧ mm ≠ ks ∧ mm ≠ km) ∧ (bu ≠ be ∧ bu ≠ so ∧ bu ≠ ma ∧ bu ≠ ks ∧ bu ≠ km) ∧ (be ≠ so ∧ be ≠ ma ∧ be ≠ ks ∧ be ≠ km) ∧ (so ≠ ma ∧ so ≠ ks ∧ so ≠ km) ∧ (ma ≠ ks ∧ ma ≠ km) ∧ ks ≠ km := by
  obtain ⟨h1, h2, h3, h4, h5, h6, h7, h8⟩ := h
  simp only [List.nodup_cons, List.mem_cons, List.not_mem_nil, or_false, not_or] at h8
  obtain ⟨⟨a1, a2, a3, a4, a5⟩, ⟨b1, b2, b3, b4⟩, ⟨c1, c2, c3⟩, ⟨d1, d2⟩, e1, _⟩ := h8
  have k : ∀ {a n : Nat} {g : Nat → Int32}, S.1 a = some (iarr n g) → mm ≠ a := fun {a n g} e g => by
    rw [g, e] at h1; simp [iarr, mobj] at h1
  exact ⟨⟨k h2, k h3, k h4, k h5, k h6, k h7⟩, ⟨a1, a2, a3, a4, a5⟩, ⟨b1, b2, b3, b4⟩, ⟨c1, c2, c3⟩, ⟨d1, d2⟩, e1⟩
theorem MX.sC (h : MX S mm bu be so ma ks km code nb gb gg gs gm g5 g6) (c : Int32) (nb' : Nat) : MX (xset S mm (mobj c nb' bu be so ma ks km)) mm bu be so ma ks km c nb' gb gg gs gm g5 g6 := by
  obtain ⟨n1, n2, n3, n4, n5, n6⟩ := h.ne
  obtain ⟨h1, h2, h3, h4, h5, h6, h7, h8⟩ := h
  exact ⟨xset_at _ _ _, by rw [xset_ne _ (Ne.symm n1.1), h2], by rw [xset_ne _ (Ne.symm n1.2.1), h3], by rw [xset_ne _ (Ne.symm n1.2.2.1), h4], by rw [xset_ne _ (Ne.symm n1.2.2.2.1), h5], by rw [xset_ne _ (Ne.symm n1.2.2.2.2.1), h6], by rw [xset_ne _ (Ne.symm n1.2.2.2.2.2), h7], h8⟩
theorem MX.sB (h : MX S mm bu be so ma ks km code nb gb gg gs gm g5 g6) (g' : Nat → Int32) : MX (xset S bu (iarr 2048 g')) mm bu be so ma ks km code nb g' gg gs gm g5 g6 := by
  obtain ⟨n1, n2, n3, n4, n5, n6⟩ := h.ne
  obtain ⟨h1, h2, h3, h4, h5, h6, h7, h8⟩ := h
  exact ⟨by rw [xset_ne _ n1.1, h1], xset_at _ _ _, by rw [xset_ne _ (Ne.symm n2.1), h3], by rw [xset_ne _ (Ne.symm n2.2.1), h4], by rw [xset_ne _ (Ne.symm n2.2.2.1), h5], by rw [xset_ne _ (Ne.symm n2.2.2.2.1), h6], by rw [xset_ne _ (Ne.symm n2.2.2.2.2), h7], h8⟩
theorem MX.sG (h : MX S mm bu be so ma ks km code nb gb gg gs gm g5 g6) (g' : Nat → Int32) : MX (xset S be (iarr 17 g')) mm bu be so ma ks km code nb gb g' gs gm g5 g6 := by
  obtain ⟨n1, n2, n3, n4, n5, n6⟩ := h.ne
  obtain ⟨h1, h2, h3, h4, h5, h6, h7, h8⟩ := h
  exact ⟨by rw [xset_ne _ n1.2.1, h1], by rw [xset_ne _ n2.1, h2], xset_at _ _ _, by rw [xset_ne _ (Ne.symm n3.1), h4], by rw [xset_ne _ (Ne.symm n3.2.1), h5], by rw [xset_ne _ (Ne.symm n3.2.2.1), h6], by rw [xset_ne _ (Ne.symm n3.2.2.2), h7], h8⟩
theorem MX.sS (h : MX S mm bu be so ma ks km code nb gb gg gs gm g5 g6) (g' : Nat → Int32) : MX (xset S so (iarr 4096 g')) mm bu be so ma ks km code nb gb gg g' gm g5 g6 := by
  obtain ⟨n1, n2, n3, n4, n5, n6⟩ := h.ne
  obtain ⟨h1, h2, h3, h4, h5, h6, h7, h8⟩ := h
  exact ⟨by rw [xset_ne _ n1.2.2.1, h1], by rw [xset_ne _ n2.2.1, h2], by rw [xset_ne _ n3.1, h3], xset_at _ _ _, by rw [xset_ne _ (Ne.symm n4.1), h5], by rw [xset_ne _ (Ne.symm n4.2.1), h6], by rw [xset_ne _ (Ne.symm n4.2.2), h7], h8⟩
theorem MX.sM (h : MX S mm bu be so ma ks km code nb gb gg gs gm g5 g6) (g' : Nat → Int32) : MX (xset S ma (iarr 4096 g')) mm bu be so ma ks km code nb gb gg gs g' g5 g6 := by
  obtain ⟨n1, n2, n3, n4, n5, n6⟩ := h.ne
  obtain ⟨h1, h2, h3, h4, h5, h6, h7, h8⟩ := h
  exact ⟨by rw [xset_ne _ n1.2.2.2.1, h1], by rw [xset_ne _ n2.2.2.1, h2], by rw [xset_ne _ n3.2.1, h3], by rw [xset_ne _ n4.1, h4], xset_at _ _ _, by rw [xset_ne _ (Ne.symm n5.1), h6], by rw [xset_ne _ (Ne.symm n5.2), h7], h8⟩
theorem MX.s5 (h : MX S mm bu be so ma ks km code nb gb gg gs gm g5 g6) (g' : Nat → Int32) : MX (xset S ks (iarr 4096 g')) mm bu be so ma ks km code nb gb gg gs gm g' g6 := by
  obtain ⟨n1, n2, n3, n4, n5, n6⟩ := h.ne
  obtain ⟨h1, h2, h3, h4, h5, h6, h7, h8⟩ := h
  exact ⟨by rw [xset_ne _ n1.2.2.2.2.1, h1], by rw [xset_ne _ n2.2.2.2.1, h2], by rw [xset_ne _ n3.2.2.1, h3], by rw [xset_ne _ n4.2.1, h4], by rw [xset_ne _ n5.1, h5], xset_at _ _ _, by rw [xset_ne _ (Ne.symm n6), h7], h8⟩
theorem MX.s6 (h : MX S mm bu be so ma ks km code nb gb gg gs gm g5 g6) (g' : Nat → Int32) : MX (xset S km (iarr 4096 g')) mm bu be so ma ks km code nb gb gg gs gm g5 g' := by
  obtain ⟨n1, n2, n3, n4, n5, n6⟩ := h.ne
  obtain ⟨h1, h2, h3, h4, h5, h6, h7, h8⟩ := h
  exact ⟨by rw [xset_ne _ n1.2.2.2.2.2, h1], by rw [xset_ne _ n2.2.2.2.2, h2], by rw [xset_ne _ n3.2.2.2, h3], by rw [xset_ne _ n4.2.2, h4], by rw [xset_ne _ n5.2, h5], by rw [xset_ne _ n6, h6], xset_at _ _ _, h8⟩
theorem pM0 (h : MX S mm bu be so ma ks km code nb gb gg gs gm g5 g6) (c : Int32) : xput S (some mm) 5 0 (.int c) = some (xset S mm (mobj c nb bu be so ma ks km)) := by simp [xput, xobj, h.1, mobj]
theorem pM1 (h : MX S mm bu be so ma ks km code nb gb gg gs gm g5 g6) (n : Nat) : xput S (some mm) 5 1 (.int (nI n)) = some (xset S mm (mobj code n bu be so ma ks km)) := by simp [xput, xobj, h.1, mobj]
end MXs
/-! the loops -/
section LP
variable {mm bu be so ma ks km nb d : Nat} {code : Int32} {gb : Nat → Int32}
theorem k_loop {t a n o : Nat} (ht : t < 16) (hb : o + a + n ≤ 4096) : ∀ f k (S : xS) (gg gs gm g5 g6 : Nat → Int32), k ≤ n → n - k < f → gg t = nI o → MX S mm bu be so ma ks km code nb gb gg gs gm g5 g6 →
    ∃ S' g5' g6', l_M_keep_3 d f (some mm) (nI t) (nI a) (nI n) (nI k) S = some ((), S') ∧ MX S' mm bu be so ma ks km code nb gb gg gs gm g5' g6' ∧ MF mm bu be so ma ks km S S' ∧ (∀ j, g5' j = if k ≤ j ∧ j < n then gs (o + a + j) else g5 j) ∧ ∀ j, g6' j = if k ≤ j ∧ j < n then gm (o + a + j) else g6 j := by
  intro f
  induction f with
  | zero => intro k S gg gs gm g5 g6 _ h; omega
  | succ f ih =>
    intro k S gg gs gm g5 g6 hk hf hgt h
    show ∃ S' g5' g6', b_M_keep_3 d (l_M_keep_3 d f) (some mm) (nI t) (nI a) (nI n) (nI k) S = _ ∧ _
    simp only [b_M_keep_3]
    rw [ifle (by omega) (by omega)]
    by_cases c : n ≤ k
    · rw [if_pos c]
      exact ⟨S, g5, g6, rfl, h, MF.rfl', fun j => by rw [if_neg (by omega)], fun j => by rw [if_neg (by omega)]⟩
    · rw [if_neg c]
      have h1 := h.s5 (upd g5 k (gs (o + a + k)))
      have h2 := h1.s6 (upd g6 k (gm (o + a + k)))
      simp only [gM6 h, gM4 h, gM3 h, Option.bind_some, ldA h.2.2.1 (show t < 17 by omega) (by omega), hgt, nI_add, ldA h.2.2.2.1 (show o + a + k < 4096 by omega) (by omega), stA h.2.2.2.2.2.1 (show k < 4096 by omega) (by omega), gM7 h1, gM5 h1, gM3 h1, ldA h1.2.2.1 (show t < 17 by omega) (by omega), ldA h1.2.2.2.2.1 (show o + a + k < 4096 by omega) (by omega), stA h1.2.2.2.2.2.2.1 (show k < 4096 by omega) (by omega), nI_1]
      obtain ⟨S', g5', g6', q1, q2, q3, q4, q5⟩ := ih (k + 1) _ _ _ _ _ _ (by omega) (by omega) hgt h2
      refine ⟨S', g5', g6', q1, q2, (MF.set (by simp)).trans ((MF.set (by simp)).trans q3), fun j => ?_, fun j => ?_⟩
      · rw [q4 j]
        by_cases e : j = k
        · subst e; rw [if_neg (by omega), pk_us, if_pos (by omega)]
        · rw [pk_un e]
          by_cases c3 : k ≤ j ∧ j < n
          · rw [if_pos (by omega), if_pos c3]
          · rw [if_neg (by omega), if_neg c3]
      · rw [q5 j]
        by_cases e : j = k
        · subst e; rw [if_neg (by omega), pk_us, if_pos (by omega)]
        · rw [pk_un e]
          by_cases c3 : k ≤ j ∧ j < n
          · rw [if_pos (by omega), if_pos c3]
          · rw [if_neg (by omega), if_neg c3]
theorem rb_loop {n : Nat} : ∀ f u (S : xS) (gg gs gm g5 g6 : Nat → Int32), u ≤ 17 → 17 - u < f → MX S mm bu be so ma ks km code nb gb gg gs gm g5 g6 →
    ∃ S' gg', l_M_remove_67 d f (some mm) (nI n) (nI u) S = some ((), S') ∧ MX S' mm bu be so ma ks km code nb gb gg' gs gm g5 g6 ∧ MF mm bu be so ma ks km S S' ∧ ∀ j, gg' j = if u ≤ j ∧ j ≤ 16 then gg j - nI n else gg j := by
  intro f
  induction f with
  | zero => intro u S gg gs gm g5 g6 _ h; omega
  | succ f ih =>
    intro u S gg gs gm g5 g6 hk hf h
    show ∃ S' gg', b_M_remove_67 d (l_M_remove_67 d f) (some mm) (nI n) (nI u) S = _ ∧ _
    simp only [b_M_remove_67]
    rw [show (16 : Int32) = nI 16 from rfl, iflt (by omega) (by omega)]
    by_cases c : 16 < u
    · rw [if_pos c]
      exact ⟨S, gg, rfl, h, MF.rfl', fun j => by rw [if_neg (by omega)]⟩
    · rw [if_neg c]
      have h1 := h.sG (upd gg u (gg u - nI n))
      simp only [gM3 h, Option.bind_some, ldA h.2.2.1 (show u < 17 by omega) (by omega), stA h.2.2.1 (show u < 17 by omega) (by omega), nI_1]
      obtain ⟨S', gg', q1, q2, q3, q4⟩ := ih (u + 1) _ _ _ _ _ _ (by omega) (by omega) h1
      refine ⟨S', gg', q1, q2, (MF.set (by simp)).trans q3, fun j => ?_⟩
      rw [q4 j]
      by_cases e : j = u
      · subst e; rw [if_neg (by omega), pk_us, if_pos (by omega)]
      · rw [pk_un e]
        by_cases c3 : u ≤ j ∧ j ≤ 16
        · rw [if_pos (by omega), if_pos c3]
        · rw [if_neg (by omega), if_neg c3]
theorem ib_loop {n : Nat} : ∀ f u (S : xS) (gg gs gm g5 g6 : Nat → Int32), u ≤ 17 → 17 - u < f → MX S mm bu be so ma ks km code nb gb gg gs gm g5 g6 →
    ∃ S' gg', l_M_insert_120 d f (some mm) (nI n) (nI u) S = some ((), S') ∧ MX S' mm bu be so ma ks km code nb gb gg' gs gm g5 g6 ∧ MF mm bu be so ma ks km S S' ∧ ∀ j, gg' j = if u ≤ j ∧ j ≤ 16 then gg j + nI n else gg j := by
  intro f
  induction f with
  | zero => intro u S gg gs gm g5 g6 _ h; omega
  | succ f ih =>
    intro u S gg gs gm g5 g6 hk hf h
    show ∃ S' gg', b_M_insert_120 d (l_M_insert_120 d f) (some mm) (nI n) (nI u) S = _ ∧ _
    simp only [b_M_insert_120]
    rw [show (16 : Int32) = nI 16 from rfl, iflt (by omega) (by omega)]
    by_cases c : 16 < u
    · rw [if_pos c]
      exact ⟨S, gg, rfl, h, MF.rfl', fun j => by rw [if_neg (by omega)]⟩
    · rw [if_neg c]
      have h1 := h.sG (upd gg u (gg u + nI n))
      simp only [gM3 h, Option.bind_some, ldA h.2.2.1 (show u < 17 by omega) (by omega), stA h.2.2.1 (show u < 17 by omega) (by omega), nI_1]
      obtain ⟨S', gg', q1, q2, q3, q4⟩ := ih (u + 1) _ _ _ _ _ _ (by omega) (by omega) h1
      refine ⟨S', gg', q1, q2, (MF.set (by simp)).trans q3, fun j => ?_⟩
      rw [q4 j]
      by_cases e : j = u
      · subst e; rw [if_neg (by omega), pk_us, if_pos (by omega)]
      · rw [pk_un e]
        by_cases c3 : u ≤ j ∧ j ≤ 16
        · rw [if_pos (by omega), if_pos c3]
        · rw [if_neg (by omega), if_neg c3]
theorem r_loop {t n e : Nat} (ht : t < 16) (he : e ≤ 4096) (hn : n ≤ e) : ∀ f k (S : xS) (gg gs gm g5 g6 : Nat → Int32), e - n - k < f → k ≤ 4096 → gg 16 = nI e → MX S mm bu be so ma ks km code nb gb gg gs gm g5 g6 →
    ∃ S' gg' gs' gm', l_M_remove_10 d f (some mm) (nI t) (nI n) (nI k) S = some ((), S') ∧ MX S' mm bu be so ma ks km code nb gb gg' gs' gm' g5 g6 ∧ MF mm bu be so ma ks km S S' ∧ (∀ j, gg' j = if t + 1 ≤ j ∧ j ≤ 16 then gg j - nI n else gg j) ∧ (∀ j, gs' j = if k ≤ j ∧ j < e - n then gs (j + n) else gs j) ∧ ∀ j, gm' j = if k ≤ j ∧ j < e - n then gm (j + n) else gm j := by
  intro f
  induction f with
  | zero => intro k S gg gs gm g5 g6 h; omega
  | succ f ih =>
    intro k S gg gs gm g5 g6 hf hk hge h
    show ∃ S' gg' gs' gm', b_M_remove_10 d (l_M_remove_10 d f) (some mm) (nI t) (nI n) (nI k) S = _ ∧ _
    simp only [b_M_remove_10, gM3 h, Option.bind_some, show (16 : Int32) = nI 16 from rfl, ldA h.2.2.1 (show 16 < 17 by omega) (by omega), hge]
    rw [pk_sub hn, ifle (by omega) (by omega)]
    by_cases c : e - n ≤ k
    · rw [if_pos c, nI_1]
      obtain ⟨S', gg', q1, q2, q3, q4⟩ := rb_loop (d := d) (n := n) xN (t + 1) S gg gs gm g5 g6 (by omega) (by unfold xN; omega) h
      exact ⟨S', gg', gs, gm, q1, q2, q3, q4, fun j => by rw [if_neg (by omega)], fun j => by rw [if_neg (by omega)]⟩
    · rw [if_neg c]
      have h1 := h.sS (upd gs k (gs (k + n)))
      have h2 := h1.sM (upd gm k (gm (k + n)))
      simp only [gM4 h, Option.bind_some, nI_add, ldA h.2.2.2.1 (show k + n < 4096 by omega) (by omega), stA h.2.2.2.1 (show k < 4096 by omega) (by omega), gM5 h1, ldA h1.2.2.2.2.1 (show k + n < 4096 by omega) (by omega), stA h1.2.2.2.2.1 (show k < 4096 by omega) (by omega), nI_1]
      obtain ⟨S', gg', gs', gm', q1, q2, q3, q4, q5, q6⟩ := ih (k + 1) _ _ _ _ _ _ (by omega) (by omega) hge h2
      refine ⟨S', gg', gs', gm', q1, q2, (MF.set (by simp)).trans ((MF.set (by simp)).trans q3), q4, fun j => ?_, fun j => ?_⟩
      · rw [q5 j]
        by_cases c3 : k + 1 ≤ j ∧ j < e - n
        · rw [if_pos c3, if_pos (by omega), pk_un (by omega)]
        · rw [if_neg c3]
          by_cases e1 : j = k
          · subst e1; rw [pk_us, if_pos (by omega)]
          · rw [pk_un e1, if_neg (by omega)]
      · rw [q6 j]
        by_cases c3 : k + 1 ≤ j ∧ j < e - n
        · rw [if_pos c3, if_pos (by omega), pk_un (by omega)]
        · rw [if_neg c3]
          by_cases e1 : j = k
          · subst e1; rw [pk_us, if_pos (by omega)]
          · rw [pk_un e1, if_neg (by omega)]
theorem ic_loop {t n b : Nat} (ht : t < 16) (hb : b + n ≤ 4096) : ∀ f k (S : xS) (gg gs gm g5 g6 : Nat → Int32), k ≤ n → n - k < f → MX S mm bu be so ma ks km code nb gb gg gs gm g5 g6 →
    ∃ S' gg' gs' gm', l_M_insert_69 d f (some mm) (nI t) (nI n) (nI b) (nI k) S = some ((), S') ∧ MX S' mm bu be so ma ks km code nb gb gg' gs' gm' g5 g6 ∧ MF mm bu be so ma ks km S S' ∧ (∀ j, gg' j = if t + 1 ≤ j ∧ j ≤ 16 then gg j + nI n else gg j) ∧ (∀ j, gs' j = if b + k ≤ j ∧ j < b + n then g5 (j - b) else gs j) ∧ ∀ j, gm' j = if b + k ≤ j ∧ j < b + n then g6 (j - b) else gm j := by
  intro f
  induction f with
  | zero => intro k S gg gs gm g5 g6 _ h; omega
  | succ f ih =>
    intro k S gg gs gm g5 g6 hk hf h
    show ∃ S' gg' gs' gm', b_M_insert_69 d (l_M_insert_69 d f) (some mm) (nI t) (nI n) (nI b) (nI k) S = _ ∧ _
    simp only [b_M_insert_69]
    rw [ifle (by omega) (by omega)]
    by_cases c : n ≤ k
    · rw [if_pos c, nI_1]
      obtain ⟨S', gg', q1, q2, q3, q4⟩ := ib_loop (d := d) (n := n) xN (t + 1) S gg gs gm g5 g6 (by omega) (by unfold xN; omega) h
      exact ⟨S', gg', gs, gm, q1, q2, q3, q4, fun j => by rw [if_neg (by omega)], fun j => by rw [if_neg (by omega)]⟩
    · rw [if_neg c]
      have h1 := h.sS (upd gs (b + k) (g5 k))
      have h2 := h1.sM (upd gm (b + k) (g6 k))
      simp only [gM4 h, gM6 h, Option.bind_some, nI_add, ldA h.2.2.2.2.2.1 (show k < 4096 by omega) (by omega), stA h.2.2.2.1 (show b + k < 4096 by omega) (by omega), gM5 h1, gM7 h1, ldA h1.2.2.2.2.2.2.1 (show k < 4096 by omega) (by omega), stA h1.2.2.2.2.1 (show b + k < 4096 by omega) (by omega), nI_1]
      obtain ⟨S', gg', gs', gm', q1, q2, q3, q4, q5, q6⟩ := ih (k + 1) _ _ _ _ _ _ (by omega) (by omega) h2
      refine ⟨S', gg', gs', gm', q1, q2, (MF.set (by simp)).trans ((MF.set (by simp)).trans q3), q4, fun j => ?_, fun j => ?_⟩
      · rw [q5 j]
        by_cases c3 : b + (k + 1) ≤ j ∧ j < b + n
        · rw [if_pos c3, if_pos (by omega)]
        · rw [if_neg c3]
          by_cases e1 : j = b + k
          · subst e1; rw [pk_us, if_pos (by omega)]; congr 1; omega
          · rw [pk_un e1, if_neg (by omega)]
      · rw [q6 j]
        by_cases c3 : b + (k + 1) ≤ j ∧ j < b + n
        · rw [if_pos c3, if_pos (by omega)]
        · rw [if_neg c3]
          by_cases e1 : j = b + k
          · subst e1; rw [pk_us, if_pos (by omega)]; congr 1; omega
          · rw [pk_un e1, if_neg (by omega)]
theorem i_loop {t n b : Nat} (ht : t < 16) (hb : b + n ≤ 4096) : ∀ f c (S : xS) (gg gs gm g5 g6 : Nat → Int32), c - b < f → c + n ≤ 4096 → MX S mm bu be so ma ks km code nb gb gg gs gm g5 g6 →
    ∃ S' gg' gs' gm', l_M_insert_21 d f (some mm) (nI t) (nI n) (nI b) (nI c - 1) S = some ((), S') ∧ MX S' mm bu be so ma ks km code nb gb gg' gs' gm' g5 g6 ∧ MF mm bu be so ma ks km S S' ∧ (∀ j, gg' j = if t + 1 ≤ j ∧ j ≤ 16 then gg j + nI n else gg j) ∧ (∀ j, gs' j = if b ≤ j ∧ j < b + n then g5 (j - b) else if b + n ≤ j ∧ j < c + n then gs (j - n) else gs j) ∧ ∀ j, gm' j = if b ≤ j ∧ j < b + n then g6 (j - b) else if b + n ≤ j ∧ j < c + n then gm (j - n) else gm j := by
  intro f
  induction f with
  | zero => intro c S gg gs gm g5 g6 h; omega
  | succ f ih =>
    intro c S gg gs gm g5 g6 hf hc h
    show ∃ S' gg' gs' gm', b_M_insert_21 d (l_M_insert_21 d f) (some mm) (nI t) (nI n) (nI b) (nI c - 1) S = _ ∧ _
    simp only [b_M_insert_21]
    have e1 : (nI c - 1).toInt = (c : Int) - 1 := pk_sub31 (a := c) (b := 1) (by omega) (by omega)
    by_cases cc : c ≤ b
    · rw [if_pos (show nI c - 1 < nI b by rw [Int32.lt_iff_toInt_lt, e1, nI_toInt (by omega)]; omega)]
      obtain ⟨S', gg', gs', gm', q1, q2, q3, q4, q5, q6⟩ := ic_loop (d := d) (n := n) (b := b) ht hb xN 0 S gg gs gm g5 g6 (by omega) (by unfold xN; omega) h
      refine ⟨S', gg', gs', gm', q1, q2, q3, q4, fun j => ?_, fun j => ?_⟩
      · rw [q5 j, Nat.add_zero]
        by_cases c3 : b ≤ j ∧ j < b + n
        · rw [if_pos c3, if_pos c3]
        · rw [if_neg c3, if_neg c3, if_neg (by omega)]
      · rw [q6 j, Nat.add_zero]
        by_cases c3 : b ≤ j ∧ j < b + n
        · rw [if_pos c3, if_pos c3]
        · rw [if_neg c3, if_neg c3, if_neg (by omega)]
    · rw [if_neg (show ¬ nI c - 1 < nI b by rw [Int32.lt_iff_toInt_lt, e1, nI_toInt (by omega)]; omega)]
      obtain ⟨k, rfl⟩ : ∃ k, c = k + 1 := ⟨c - 1, by omega⟩
      rw [nI_pred]
      have h1 := h.sS (upd gs (k + n) (gs k))
      have h2 := h1.sM (upd gm (k + n) (gm k))
      have e2 : nI k + (-1) = nI k - 1 := by rw [Int32.sub_eq_add_neg]
      simp only [gM4 h, Option.bind_some, nI_add, ldA h.2.2.2.1 (show k < 4096 by omega) (by omega), stA h.2.2.2.1 (show k + n < 4096 by omega) (by omega), gM5 h1, ldA h1.2.2.2.2.1 (show k < 4096 by omega) (by omega), stA h1.2.2.2.2.1 (show k + n < 4096 by omega) (by omega), e2]
      obtain ⟨S', gg', gs', gm', q1, q2, q3, q4, q5, q6⟩ := ih k _ _ _ _ _ _ (by omega) (by omega) h2
      refine ⟨S', gg', gs', gm', q1, q2, (MF.set (by simp)).trans ((MF.set (by simp)).trans q3), q4, fun j => ?_, fun j => ?_⟩
      · rw [q5 j]
        by_cases c3 : b ≤ j ∧ j < b + n
        · rw [if_pos c3, if_pos c3]
        · rw [if_neg c3, if_neg c3]
          by_cases c4 : b + n ≤ j ∧ j < k + n
          · rw [if_pos c4, if_pos (by omega), pk_un (by omega)]
          · rw [if_neg c4]
            by_cases e1 : j = k + n
            · subst e1; rw [pk_us, if_pos (by omega)]; congr 1; omega
            · rw [pk_un e1, if_neg (by omega)]
      · rw [q6 j]
        by_cases c3 : b ≤ j ∧ j < b + n
        · rw [if_pos c3, if_pos c3]
        · rw [if_neg c3, if_neg c3]
          by_cases c4 : b + n ≤ j ∧ j < k + n
          · rw [if_pos c4, if_pos (by omega), pk_un (by omega)]
          · rw [if_neg c4]
            by_cases e1 : j = k + n
            · subst e1; rw [pk_us, if_pos (by omega)]; congr 1; omega
            · rw [pk_un e1, if_neg (by omega)]
end LP
