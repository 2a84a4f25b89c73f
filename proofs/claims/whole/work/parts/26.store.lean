/-! NODES KEPT FOR LATER USE; WHERE TWO ROWS MEET -/
def spr (H : Nat → Option xO) : Option Nat → List Nat → Prop
  | r, [] => r = none
  | r, a :: ys => r = some a ∧ ∃ (s z t : Int32) (l q : Option Nat) (i j k : Int32), H a = some (pcell s z t l q i j k) ∧ spr H q ys
theorem spr_kept {H H' : Nat → Option xO} : ∀ {ys : List Nat} {r : Option Nat}, spr H r ys → (∀ a ∈ ys, H' a = H a) → spr H' r ys := by
  intro ys
  induction ys with
  | nil => intro r h _; exact h
  | cons a ys ih =>
    intro r h hk
    obtain ⟨h1, s, z, t, l, q, i, j, k, h2, h3⟩ := h
    exact ⟨h1, s, z, t, l, q, i, j, k, by rw [hk a (by simp), h2], ih h3 fun b hb => hk b (by simp [hb])⟩
def un (F : Nat → Prop) (L : List Nat) : Nat → Prop := fun b => F b ∨ b ∈ L
/-- the store of kept nodes, apart from F; nothing is known behind the heap's end -/
def St (S : xS) (T : Nat) (F : Nat → Prop) : Prop := ¬ F T ∧ (∃ (sp : Option Nat) (ys : List Nat), S.1 T = some (.inr (4, [va_rf sp])) ∧ spr S.1 sp ys ∧ ys.Nodup ∧ ∀ a ∈ ys, ¬ F a) ∧ (∀ a, F a → a < S.2.1) ∧ ∀ a, S.2.1 ≤ a → S.1 a = none
theorem St.less {S : xS} {T : Nat} {F G : Nat → Prop} (h : St S T F) (hg : ∀ b, G b → F b) : St S T G := by
  obtain ⟨h0, ⟨sp, ys, h1, h2, h3, h4⟩, h5, h6⟩ := h
  exact ⟨fun g => h0 (hg _ g), ⟨sp, ys, h1, h2, h3, fun a ha g => h4 a ha (hg _ g)⟩, fun a g => h5 a (hg _ g), h6⟩
theorem St.kept {S S' : xS} {T : Nat} {F : Nat → Prop} (h : St S T F) (h2 : S'.2 = S.2) (hk : ∀ b, ¬ F b → S'.1 b = S.1 b) : St S' T F := by
  obtain ⟨h0, ⟨sp, ys, h1, h3, h4, h5⟩, h6, h7⟩ := h
  refine ⟨h0, ⟨sp, ys, by rw [hk T h0, h1], spr_kept h3 fun a ha => hk a (h5 a ha), h4, h5⟩, by rw [h2]; exact h6, ?_⟩
  intro a ha
  rw [h2] at ha
  rw [hk a (fun g => by have := h6 a g; omega)]
  exact h7 a ha
theorem St.lt {S : xS} {T : Nat} {F : Nat → Prop} (h : St S T F) {a : Nat} {o : xO} (ha : S.1 a = some o) : a < S.2.1 := by
  rcases Nat.lt_or_ge a S.2.1 with g | g
  · exact g
  · rw [h.2.2.2 a g] at ha; cases ha
theorem St.T {S : xS} {T : Nat} {F : Nat → Prop} (h : St S T F) : ∃ w, xobj S (some T) 4 = some w := by
  obtain ⟨h0, ⟨sp, ys, h1, _⟩, _⟩ := h
  exact ⟨_, xobj_of h1⟩
theorem gT {S : xS} {T : Nat} {sp : Option Nat} (h : S.1 T = some (.inr (4, [va_rf sp]))) : xgR S (some T) 4 0 = some sp := by cases sp <;> simp [xgR, xobj, h, va_rf]
theorem pT {S : xS} {T : Nat} {sp : Option Nat} (h : S.1 T = some (.inr (4, [va_rf sp]))) (v : Option Nat) : xput S (some T) 4 0 (va_rf v) = some (xset S T (.inr (4, [va_rf v]))) := by simp [xput, xobj, h]
/-- room for n cells and m slots -/
def rm (S : xS) (n m : Nat) : Prop := S.2.1 + n ≤ S.2.2.2.1 ∧ S.2.2.1 + m ≤ S.2.2.2.2
theorem rm.same {S S' : xS} {n m : Nat} (h : rm S n m) (e : S'.2 = S.2) : rm S' n m := by unfold rm at *; rw [e]; exact h
theorem rm.less {S : xS} {n m n' m' : Nat} (h : rm S n m) (h1 : n' ≤ n) (h2 : m' ≤ m) : rm S n' m' := by unfold rm at *; omega
theorem t_give {S : xS} {T a d : Nat} {s z t i j k : Int32} {l q : Option Nat} {F G : Nat → Prop} (h : St S T F) (ha : S.1 a = some (pcell s z t l q i j k)) (hF : F a) (hG : ∀ b, G b → F b) (nG : ¬ G a) (hd : 0 < d) :
    ∃ S', f_T_giveBack d (some T) (some a) S = some ((), S') ∧ S'.2 = S.2 ∧ St S' T G ∧ (∀ b, b ≠ a → b ≠ T → S'.1 b = S.1 b) := by
  obtain ⟨d, rfl⟩ : ∃ e, d = e + 1 := ⟨d - 1, by omega⟩
  obtain ⟨h0, ⟨sp, ys, h1, h2, h3, h4⟩, h5, h6⟩ := h
  have hne : T ≠ a := fun e => h0 (by rw [e]; exact hF)
  have h1' : (xset S a (pcell s z t none q i j k)).1 T = some (.inr (4, [va_rf sp])) := by rw [xset_ne _ hne, h1]
  have h1'' : (xset S a (pcell s z t none sp i j k)).1 T = some (.inr (4, [va_rf sp])) := by rw [xset_ne _ hne, h1]
  refine ⟨xset (xset S a (pcell s z t none sp i j k)) T (.inr (4, [va_rf (some a)])), ?_, rfl, ⟨fun g => h0 (hG _ g), ⟨some a, a :: ys, xset_at _ _ _, ⟨rfl, s, z, t, none, sp, i, j, k, ?_, ?_⟩, ?_, ?_⟩, fun b g => h5 b (hG b g), ?_⟩, ?_⟩
  · show e_T_giveBack d (some T) (some a) S = _
    simp only [e_T_giveBack, pP3 ha, Option.bind_some, gT h1', pP4 (xset_at _ _ _), xset_two, pT h1'']
  · rw [xset_ne _ (Ne.symm hne), xset_at]
  · exact spr_kept h2 fun b hb => by
      have e1 : b ≠ T := by
        intro e; subst e
        cases ys with
        | nil => cases hb
        | cons y ys =>
          have key : ∀ (zs : List Nat) (r : Option Nat), spr S.1 r zs → ∀ c ∈ zs, ∃ (s z t : Int32) (l q : Option Nat) (i j k : Int32), S.1 c = some (pcell s z t l q i j k) := by
            intro zs
            induction zs with
            | nil => intro r _ c hc; cases hc
            | cons w zs ih =>
              intro r hr c hc
              obtain ⟨_, s, z, t, l, q, i, j, k, e2, e3⟩ := hr
              rcases List.mem_cons.mp hc with rfl | hc
              · exact ⟨s, z, t, l, q, i, j, k, e2⟩
              · exact ih q e3 c hc
          obtain ⟨_, _, _, _, _, _, _, _, e⟩ := key _ _ h2 _ hb
          rw [h1] at e
          simp [pcell] at e
      rw [xset_ne _ e1, xset_ne _ (fun e => h4 b hb (by rw [e]; exact hF))]
  · exact List.nodup_cons.mpr ⟨fun g => h4 a g hF, h3⟩
  · intro b hb g
    rcases List.mem_cons.mp hb with rfl | hb
    · exact nG g
    · exact h4 b hb (hG b g)
  · intro b hb
    have e1 : b ≠ T := by
      intro e; subst e
      rw [h6 b hb] at h1; cases h1
    have e2 : b ≠ a := by
      intro e; subst e
      rw [h6 b hb] at ha; cases ha
    rw [xset_ne _ e1, xset_ne _ e2]; exact h6 b hb
  · intro b e1 e2
    rw [xset_ne _ e2, xset_ne _ e1]
theorem spr_cell {H : Nat → Option xO} : ∀ {zs : List Nat} {r : Option Nat}, spr H r zs → ∀ c ∈ zs, ∃ (s z t : Int32) (l q : Option Nat) (i j k : Int32), H c = some (pcell s z t l q i j k) := by
  intro zs
  induction zs with
  | nil => intro r _ c hc; cases hc
  | cons w zs ih =>
    intro r hr c hc
    obtain ⟨_, s, z, t, l, q, i, j, k, e2, e3⟩ := hr
    rcases List.mem_cons.mp hc with rfl | hc
    · exact ⟨s, z, t, l, q, i, j, k, e2⟩
    · exact ih e3 c hc
theorem t_alone {S : xS} {a s z d : Nat} {t i j k : Int32} {l q : Option Nat} (ha : S.1 a = some (pcell (nI s) (nI z) t l q i j k)) (hd : 1 < d) : f_T_alone d (some a) S = some (some a, xset S a (pcell (nI s) (nI z) t none none (nI 1) (nI 1) (nI z))) := by
  obtain ⟨d, rfl⟩ : ∃ e, d = e + 1 := ⟨d - 1, by omega⟩
  show e_T_alone d (some a) S = _
  have hs := t_sum (d := d) (xset_at S a (pcell (nI s) (nI z) t none none i j k)) (hl := 0) (n1 := 0) (c1 := 0) (hr := 0) (n2 := 0) (c2 := 0) (.inl ⟨rfl, rfl, rfl, rfl⟩) (.inl ⟨rfl, rfl, rfl, rfl⟩) (by omega) (by omega) (by omega)
  simp only [e_T_alone, pP3 ha, pP4 (xset_at _ _ _), xset_two, Option.bind_some, hs]
  simp
theorem tr_one {H : Nat → Option xO} {a s z : Nat} {t : Int32} (ha : H a = some (pcell (nI s) (nI z) t none none (nI 1) (nI 1) (nI z))) : tr H 1 (some a) [(a, s, z, t)] :=
  tr_mk ha (tr_nil H) (tr_nil H) rfl rfl (by simp [tot]) (by omega) (by omega) rfl rfl
theorem t_take {S : xS} {T d s z n m : Nat} {t : Int32} {F : Nat → Prop} (h : St S T F) (hr : rm S (n + 1) (m + 8)) (hd : 2 < d) :
    ∃ (a : Nat) (S' : xS), f_T_take d (some T) (nI s) (nI z) t S = some (some a, S') ∧ S'.1 a = some (pcell (nI s) (nI z) t none none (nI 1) (nI 1) (nI z)) ∧ St S' T (un F [a]) ∧ ¬ F a ∧ a ≠ T ∧ (∀ b, F b → S'.1 b = S.1 b) ∧ rm S' n m := by
  obtain ⟨d, rfl⟩ : ∃ e, d = e + 1 := ⟨d - 1, by omega⟩
  obtain ⟨h0, ⟨sp, ys, h1, h2, h3, h4⟩, h5, h6⟩ := h
  have hTlt : T < S.2.1 := by
    rcases Nat.lt_or_ge T S.2.1 with g | g
    · exact g
    · rw [h6 T g] at h1; cases h1
  have fin : ∀ (S6 : xS) (a : Nat) (s0 z0 t0 i j k : Int32) (l q : Option Nat), S6.1 a = some (pcell s0 z0 t0 l q i j k) → b_T_take_32 d (nI s) (nI z) t (some a) S6 = some (some a, xset S6 a (pcell (nI s) (nI z) t none none (nI 1) (nI 1) (nI z))) := by
    intro S6 a s0 z0 t0 i j k l q e
    simp only [b_T_take_32, pP0 e, pP1 (xset_at _ _ _), pP2 (xset_at _ _ _), xset_two, Option.bind_some, t_alone (xset_at S6 a (pcell (nI s) (nI z) t l q i j k)) (d := d) (by omega)]
  cases ys with
  | nil =>
    have e : sp = none := h2
    subst e
    have hroom : S.2.1 + 1 ≤ S.2.2.2.1 ∧ S.2.2.1 + 8 ≤ S.2.2.2.2 := by unfold rm at hr; omega
    have hk : (xpush S (.inr (2, [.int 0, .int 0, .int 0, .null, .null, .int 0, .int 0, .int 0])) 8).1 S.2.1 = some (pcell 0 0 0 none none 0 0 0) := va_up_self _ _ _
    refine ⟨S.2.1, _, ?_, xset_at (xpush S (.inr (2, [.int 0, .int 0, .int 0, .null, .null, .int 0, .int 0, .int 0])) 8) _ _, ⟨?_, ⟨none, [], ?_, rfl, List.nodup_nil, fun _ ha => nomatch ha⟩, ?_, ?_⟩, ?_, ?_, ?_, ?_⟩
    · show e_T_take d (some T) (nI s) (nI z) t S = _
      obtain ⟨d, rfl⟩ : ∃ e, d = e + 1 := ⟨d - 1, by omega⟩
      have hn : xnew S 2 [.int 0, .int 0, .int 0, .null, .null, .int 0, .int 0, .int 0] = some (S.2.1, xpush S (.inr (2, [.int 0, .int 0, .int 0, .null, .null, .int 0, .int 0, .int 0])) 8) := by
        exact if_pos hroom
      simp only [e_T_take, gT h1, xcase_none, Option.bind_some, hn, f_N_init, e_N_init, xcase_some, fin _ _ _ _ _ _ _ _ _ _ hk]
    · rintro (g | g)
      · exact h0 g
      · simp at g; omega
    · rw [xset_ne _ (by omega)]
      show va_up S.1 S.2.1 _ T = _
      rw [va_up_ne _ _ (by omega), h1]
    · rintro b (g | g)
      · have := h5 b g
        show b < S.2.1 + 1; omega
      · simp at g
        show b < S.2.1 + 1; omega
    · intro b hb
      have hb' : S.2.1 + 1 ≤ b := hb
      rw [xset_ne _ (by omega)]
      show va_up S.1 S.2.1 _ b = _
      rw [va_up_ne _ _ (by omega)]; exact h6 b (by omega)
    · intro g; have := h5 _ g; omega
    · omega
    · intro b g
      have := h5 b g
      rw [xset_ne _ (by omega)]
      show va_up S.1 S.2.1 _ b = _
      rw [va_up_ne _ _ (by omega)]
    · unfold rm at hr ⊢
      show S.2.1 + 1 + n ≤ S.2.2.2.1 ∧ S.2.2.1 + 8 + m ≤ S.2.2.2.2
      omega
  | cons a ys =>
    obtain ⟨rfl, s0, z0, t0, l, q, i, j, k, ha, h7⟩ := h2
    have na : ¬ F a := h4 a (by simp)
    obtain ⟨h8, h9⟩ := List.nodup_cons.mp h3
    have hne : a ≠ T := by
      intro e; rw [e, h1] at ha; simp [pcell] at ha
    have ha6 : (xset S T (.inr (4, [va_rf q]))).1 a = some (pcell s0 z0 t0 l q i j k) := by rw [xset_ne _ hne, ha]
    have halt : a < S.2.1 := by
      rcases Nat.lt_or_ge a S.2.1 with g | g
      · exact g
      · rw [h6 a g] at ha; cases ha
    refine ⟨a, _, ?_, xset_at (xset S T (.inr (4, [va_rf q]))) _ _, ⟨?_, ⟨q, ys, ?_, ?_, h9, ?_⟩, ?_, ?_⟩, na, hne, ?_, ?_⟩
    · show e_T_take d (some T) (nI s) (nI z) t S = _
      simp only [e_T_take, gT h1, xcase_some, Option.bind_some, gR4 ha, pT h1, fin _ _ _ _ _ _ _ _ _ _ ha6]
    · rintro (g | g)
      · exact h0 g
      · simp at g; exact hne g.symm
    · rw [xset_ne _ (Ne.symm hne), xset_at]
    · refine spr_kept h7 fun b hb => ?_
      have e1 : b ≠ T := by
        intro e; subst e
        obtain ⟨_, _, _, _, _, _, _, _, e⟩ := spr_cell h7 _ hb
        rw [h1] at e; simp [pcell] at e
      rw [xset_ne _ (fun e => h8 (by rw [← e]; exact hb)), xset_ne _ e1]
    · intro b hb g
      rcases g with g | g
      · exact h4 b (by simp [hb]) g
      · simp at g; subst g; exact h8 hb
    · rintro b (g | g)
      · exact h5 b g
      · simp at g; subst g; exact halt
    · intro b hb
      have hb' : S.2.1 ≤ b := hb
      rw [xset_ne _ (by omega), xset_ne _ (by omega)]; exact h6 b hb'
    · intro b g
      have e1 : b ≠ a := fun e => na (by rw [← e]; exact g)
      have e2 : b ≠ T := fun e => h0 (by rw [← e]; exact g)
      rw [xset_ne _ e1, xset_ne _ e2]
    · exact (rm.less hr (by omega) (by omega)).same rfl
