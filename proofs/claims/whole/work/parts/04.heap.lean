/-! READING AND WRITING THE STATE -/
def xobj (S : xS) (x : Option Nat) (ci : Nat) : Option (Nat × List Value) := match x with
  | none => none
  | some a => match S.1 a with
    | some (.inr (c, fs)) => if c = ci then some (a, fs) else none
    | _ => none
theorem xobj_some {S : xS} {x : Option Nat} {ci : Nat} {q : Nat × List Value} (h : xobj S x ci = some q) : x = some q.1 ∧ S.1 q.1 = some (.inr (ci, q.2)) := by
  unfold xobj at h
  split at h
  · cases h
  · split at h
    · rename_i a c fs hs
      split at h
      · rename_i hc
        cases h
        exact ⟨rfl, by rw [hs, hc]⟩
      · cases h
    · cases h
theorem xobj_of {S : xS} {a ci : Nat} {fs : List Value} (h : S.1 a = some (.inr (ci, fs))) : xobj S (some a) ci = some (a, fs) := by
  simp [xobj, h]
def xgI (S : xS) (x : Option Nat) (ci k : Nat) : Option Int32 := (xobj S x ci).bind fun q => match q.2[k]? with
  | some (.int v) => some v
  | _ => none
def xgR (S : xS) (x : Option Nat) (ci k : Nat) : Option (Option Nat) := (xobj S x ci).bind fun q => match q.2[k]? with
  | some (.ref v) => some (some v)
  | some .null => some none
  | _ => none
def xput (S : xS) (x : Option Nat) (ci k : Nat) (v : Value) : Option xS := (xobj S x ci).bind fun q => if k < q.2.length then some (xset S q.1 (.inr (ci, q.2.set k v))) else none
def xnew (S : xS) (ci : Nat) (fs : List Value) : Option (Nat × xS) := if S.2.1 + 1 ≤ S.2.2.2.1 ∧ S.2.2.1 + fs.length ≤ S.2.2.2.2 then some (S.2.1, xpush S (.inr (ci, fs)) fs.length) else none
def xnewa (S : xS) (i : Nat) (n : Int32) (g : (Nat → Int32) ⊕ (Nat → Int64) ⊕ (Nat → UInt32) ⊕ (Nat → UInt64) ⊕ (Nat → Option Nat)) : Option (Nat × xS) := if ¬ n < 0 ∧ n.toNatClampNeg ≤ 1000000 ∧ S.2.1 + 1 ≤ S.2.2.2.1 ∧ S.2.2.1 + n.toNatClampNeg ≤ S.2.2.2.2 then some (S.2.1, xpush S (.inl (i, (n.toNatClampNeg, g))) n.toNatClampNeg) else none
def xarr (S : xS) (x : Option Nat) (i : Nat) : Option (Nat × vp_A) := match x with
  | none => none
  | some a => match S.1 a with
    | some (.inl (j, z)) => if j = i then some (a, z) else none
    | _ => none
theorem xarr_some {S : xS} {x : Option Nat} {i : Nat} {q : Nat × vp_A} (h : xarr S x i = some q) : x = some q.1 ∧ S.1 q.1 = some (.inl (i, q.2)) := by
  unfold xarr at h
  split at h
  · cases h
  · split at h
    · rename_i a j z hs
      split at h
      · rename_i hc
        cases h
        exact ⟨rfl, by rw [hs, hc]⟩
      · cases h
    · cases h
theorem xarr_of {S : xS} {a i : Nat} {z : vp_A} (h : S.1 a = some (.inl (i, z))) : xarr S (some a) i = some (a, z) := by
  simp [xarr, h]
/-- elements: of an array of ints or bytes, of longs, of references -/
def xldI (S : xS) (x : Option Nat) (i : Nat) (j : Int32) : Option Int32 := (xarr S x i).bind fun q => match q.2.2 with
  | .inl f => if ¬ (j < 0 ∨ q.2.1 ≤ j.toNatClampNeg) then some (f j.toNatClampNeg) else none
  | _ => none
def xldL (S : xS) (x : Option Nat) (i : Nat) (j : Int32) : Option Int64 := (xarr S x i).bind fun q => match q.2.2 with
  | .inr (.inl f) => if ¬ (j < 0 ∨ q.2.1 ≤ j.toNatClampNeg) then some (f j.toNatClampNeg) else none
  | _ => none
def xldR (S : xS) (x : Option Nat) (i : Nat) (j : Int32) : Option (Option Nat) := (xarr S x i).bind fun q => match q.2.2 with
  | .inr (.inr (.inr (.inr f))) => if ¬ (j < 0 ∨ q.2.1 ≤ j.toNatClampNeg) then some (f j.toNatClampNeg) else none
  | _ => none
def xstI (S : xS) (x : Option Nat) (i : Nat) (j : Int32) (v : Int32) : Option xS := (xarr S x i).bind fun q => match q.2.2 with
  | .inl f => if ¬ (j < 0 ∨ q.2.1 ≤ j.toNatClampNeg) then some (xset S q.1 (.inl (i, (q.2.1, .inl (upd f j.toNatClampNeg v))))) else none
  | _ => none
def xstL (S : xS) (x : Option Nat) (i : Nat) (j : Int32) (v : Int64) : Option xS := (xarr S x i).bind fun q => match q.2.2 with
  | .inr (.inl f) => if ¬ (j < 0 ∨ q.2.1 ≤ j.toNatClampNeg) then some (xset S q.1 (.inl (i, (q.2.1, .inr (.inl (vp_updL f j.toNatClampNeg v)))))) else none
  | _ => none
/-- a reference goes into an array of references to objects of class ci -/
def xstR (S : xS) (x : Option Nat) (i ci : Nat) (j : Int32) (v : Option Nat) : Option xS := (xarr S x i).bind fun q => match q.2.2 with
  | .inr (.inr (.inr (.inr f))) => if ¬ (j < 0 ∨ q.2.1 ≤ j.toNatClampNeg) ∧ (v = none ∨ (xobj S v ci).isSome = true) then some (xset S q.1 (.inl (i, (q.2.1, .inr (.inr (.inr (.inr (va_up f j.toNatClampNeg v)))))))) else none
  | _ => none
def xlen (S : xS) (x : Option Nat) (i : Nat) : Option Int32 := (xarr S x i).bind fun q => some (Int32.ofNat q.2.1)
section XHEAP
variable {M : xM} {D : xD} {d : Nat} {S0 : xS} {r : xRes} {pc : Nat} {ls : List (Nat × xV)} {st : List Value} {S : xS} {α : Type}
/-- what is known of a field -/
theorem x_field {ci k : Nat} {C : String} {T : u_T} {N : Nat} {a : Nat} {fs : List Value} {s : State} {args : Array Value} {H : Heap} (hts : ∀ w ∈ xT, w.before args s = true) (hK : xK D s) (hR : xR D S H) (hs : S.1 a = some (.inr (ci, fs))) (hc : xCl[ci]? = some (C, T, N)) (hin : ∀ w ∈ u_ws C T N, w ∈ xT) (hk : k < N) :
    ∃ (cell : Cell) (cf : ClassId) (kf : Class) (fi : Nat) (f : Field) (kC : Class), H[a]? = some cell ∧ cell.cls = D.1.1 ci ∧ cell.vm = .none ∧ (∀ j, j < N → cell.slots[D.1.2 ci j]? = some (vp_V fs j)) ∧ s.fieldFound? (T k).1 (T k).2.1 (T k).2.2.1 = some (cf, kf, fi, f) ∧ f.slot = D.1.2 ci k ∧ f.isStatic = false ∧ s.vm.findClass C = some (D.1.1 ci) ∧ s.vm.classes[D.1.1 ci]? = some kC ∧ kC.kind = .ordinary := by
  obtain ⟨q, h1, cell, q1, q2, q3, q4⟩ := hR.2.1 a _ hs
  have hr : q = (C, T, N) := Option.some.inj (h1.symm.trans hc)
  subst hr
  obtain ⟨hS, hfc, kC, hkC, hkind⟩ := hK.1.1 ci _ hc
  obtain ⟨cf, kf, fi, f, hi, hsl⟩ := hS k hk
  exact ⟨cell, cf, kf, fi, f, kC, q1, q2, q3, q4, hi, hsl, (u_facts hfc hkC (u_lays hts hin hk) hi).1, hfc, hkC, hkind⟩
theorem x_get0 {ci index k : Nat} {C : String} {T : u_T} {N : Nat} {a : Nat} {fs : List Value} {v : Value} (hs : S.1 a = some (.inr (ci, fs))) (hv : fs[k]? = some v) (hc : xCl[ci]? = some (C, T, N)) (hin : ∀ w ∈ u_ws C T N, w ∈ xT) (hk : k < N) (hw : Cond.fieldLink M.1.cls index (T k).1 (T k).2.1 (T k).2.2.1 ∈ xT) (hd : decode M.2.1 pc = .ok (.getfield index, 3)) (kk : V M D d S0 r (pc + 3) ls (v :: st) S) : V M D d S0 r pc ls (.ref a :: st) S := by
  intro p l e R s m args below meth c A H locs k' n lsA X
  have hts := X.1.1.2.2.2.2.2.2.1
  obtain ⟨cell, cf, kf, fi, f, kC, q1, q2, q3, q4, hi, hsl, hst, -⟩ := x_field (k := k) hts X.1.2.1 X.2.1 hs hc hin hk
  refine W.getf X.1.1.1 X.1.1.2.1 X.1.1.2.2.2.2.1 (hts _ hw) hi hst q1 (by rw [q3]; exact fun h => by cases h) (v := v) ?_ rfl rfl hd (kk p l e R s m args below meth c A H locs k' n lsA X)
  rw [hsl, q4 k hk]
  simp [vp_V, hv]
theorem x_get1 {ci index k : Nat} {C host : String} {T : u_T} {N : Nat} {a : Nat} {fs : List Value} {v : Value} (hs : S.1 a = some (.inr (ci, fs))) (hv : fs[k]? = some v) (hc : xCl[ci]? = some (C, T, N)) (hin : ∀ w ∈ u_ws C T N, w ∈ xT) (hk : k < N) (hw : Cond.fieldLinkNest M.1.cls index (T k).1 (T k).2.1 (T k).2.2.1 host ∈ xT) (hd : decode M.2.1 pc = .ok (.getfield index, 3)) (kk : V M D d S0 r (pc + 3) ls (v :: st) S) : V M D d S0 r pc ls (.ref a :: st) S := by
  intro p l e R s m args below meth c A H locs k' n lsA X
  have hts := X.1.1.2.2.2.2.2.2.1
  obtain ⟨cell, cf, kf, fi, f, kC, q1, q2, q3, q4, hi, hsl, hst, -⟩ := x_field (k := k) hts X.1.2.1 X.2.1 hs hc hin hk
  refine va_Wgetf X.1.1.1 X.1.1.2.1 X.1.1.2.2.2.2.1 (hts _ hw) hi hst q1 (by rw [q3]; exact fun h => by cases h) (v := v) ?_ rfl rfl hd (kk p l e R s m args below meth c A H locs k' n lsA X)
  rw [hsl, q4 k hk]
  simp [vp_V, hv]
/-- the word by which a field is linked: in its own class, or in a nest mate's -/
def xfl (own : String) (index : Nat) (q : String × String × String × Bool) (host : Option String) : Cond := match host with
  | none => .fieldLink own index q.1 q.2.1 q.2.2.1
  | some h => .fieldLinkNest own index q.1 q.2.1 q.2.2.1 h
theorem x_get {ci index k : Nat} {C : String} {host : Option String} {T : u_T} {N : Nat} {a : Nat} {fs : List Value} {v : Value} (hs : S.1 a = some (.inr (ci, fs))) (hv : fs[k]? = some v) (hc : xCl[ci]? = some (C, T, N)) (hin : ∀ w ∈ u_ws C T N, w ∈ xT) (hk : k < N) (hw : xfl M.1.cls index (T k) host ∈ xT) (hd : decode M.2.1 pc = .ok (.getfield index, 3)) (kk : V M D d S0 r (pc + 3) ls (v :: st) S) : V M D d S0 r pc ls (.ref a :: st) S := by
  cases host with
  | none => exact x_get0 hs hv hc hin hk hw hd kk
  | some h => exact x_get1 hs hv hc hin hk hw hd kk
theorem x_getI {ci index k : Nat} {C : String} {host : Option String} {T : u_T} {N : Nat} {x : Option Nat} {F : Int32 → Option α} {z : α} (h : (xgI S x ci k).bind F = some z) (hc : xCl[ci]? = some (C, T, N)) (hin : ∀ w ∈ u_ws C T N, w ∈ xT) (hk : k < N) (hw : xfl M.1.cls index (T k) host ∈ xT) (hd : decode M.2.1 pc = .ok (.getfield index, 3)) (kk : ∀ v, F v = some z → V M D d S0 r (pc + 3) ls (.int v :: st) S) : V M D d S0 r pc ls (va_rf x :: st) S := by
  obtain ⟨v, h1, h2⟩ := Option.bind_eq_some_iff.mp h
  obtain ⟨q, h3, h4⟩ := Option.bind_eq_some_iff.mp h1
  obtain ⟨rfl, h5⟩ := xobj_some h3
  split at h4
  · rename_i w hw'
    cases h4
    exact x_get h5 hw' hc hin hk hw hd (kk _ h2)
  · cases h4
theorem x_getR {ci index k : Nat} {C : String} {host : Option String} {T : u_T} {N : Nat} {x : Option Nat} {F : Option Nat → Option α} {z : α} (h : (xgR S x ci k).bind F = some z) (hc : xCl[ci]? = some (C, T, N)) (hin : ∀ w ∈ u_ws C T N, w ∈ xT) (hk : k < N) (hw : xfl M.1.cls index (T k) host ∈ xT) (hd : decode M.2.1 pc = .ok (.getfield index, 3)) (kk : ∀ v, F v = some z → V M D d S0 r (pc + 3) ls (va_rf v :: st) S) : V M D d S0 r pc ls (va_rf x :: st) S := by
  obtain ⟨v, h1, h2⟩ := Option.bind_eq_some_iff.mp h
  obtain ⟨q, h3, h4⟩ := Option.bind_eq_some_iff.mp h1
  obtain ⟨rfl, h5⟩ := xobj_some h3
  split at h4
  · rename_i w hw'
    cases h4
    exact x_get h5 hw' hc hin hk hw hd (kk _ h2)
  · rename_i hw'
    cases h4
    exact x_get h5 hw' hc hin hk hw hd (kk _ h2)
  · cases h4
theorem x_apart {ci : Nat} {C : String} {T : u_T} {N : Nat} {s : State} {args : Array Value} (hts : ∀ w ∈ xT, w.before args s = true) (hK : xK D s) (hc : xCl[ci]? = some (C, T, N)) (hin : ∀ w ∈ u_ws C T N, w ∈ xT) (ty0 : Nat → FieldType) (hty : ∀ k, k < N → parseFieldDescriptor (T k).2.2.1 = some (ty0 k)) (hnm : ∀ a, a < N → ∀ b, b < N → a ≠ b → (T a).2.1 ≠ (T b).2.1) : ∀ x y, x < N → y < N → x ≠ y → D.1.2 ci x ≠ D.1.2 ci y := va_apart (own := C) hts hin ty0 hty hnm hK.1 hc
theorem x_put {ci index k : Nat} {C : String} {host : Option String} {T : u_T} {N : Nat} {x : Option Nat} {v : Value} {F : xS → Option α} {z : α} (h : (xput S x ci k v).bind F = some z) (hc : xCl[ci]? = some (C, T, N)) (hin : ∀ w ∈ u_ws C T N, w ∈ xT) (ty0 : Nat → FieldType) (hty : ∀ k, k < N → parseFieldDescriptor (T k).2.2.1 = some (ty0 k)) (hnm : ∀ a, a < N → ∀ b, b < N → a ≠ b → (T a).2.1 ≠ (T b).2.1) (hk : k < N) (hfin : (T k).2.2.2 = false) (hn : narrow (ty0 k) v = v) (hfit : fits (ty0 k) v = true) (hw : xfl M.1.cls index (T k) host ∈ xT) (hd : decode M.2.1 pc = .ok (.putfield index, 3)) (kk : ∀ S1, F S1 = some z → V M D d S0 r (pc + 3) ls st S1) : V M D d S0 r pc ls (v :: va_rf x :: st) S := by
  obtain ⟨S1, h1, h2⟩ := Option.bind_eq_some_iff.mp h
  obtain ⟨q, h3, h4⟩ := Option.bind_eq_some_iff.mp h1
  obtain ⟨rfl, h5⟩ := xobj_some h3
  split at h4
  case isFalse => cases h4
  rename_i hl
  cases h4
  intro p l e R s m args below meth c A H locs k' n lsA X
  have hts := X.1.1.2.2.2.2.2.2.1
  have hap := x_apart hts X.1.2.1 hc hin ty0 hty hnm
  obtain ⟨cell, cf, kf, fi, f, kC, q1, q2, q3, q4, hi, hsl, hst, hfc, hkC, hkind⟩ := x_field (k := k) hts X.1.2.1 X.2.1 h5 hc hin hk
  have hlay := hts _ (hin _ (u_in_lay hk))
  unfold u_lay at hlay
  rw [if_neg (by rw [hfin]; decide)] at hlay
  have h6 := u_store hfc hkC hkind hlay hi (hty k hk) hn hfit
  have go : ∀ H' : Heap, H'[q.1]? = some (cell.setSlot f.slot v) → H'.size = H.size → (∀ y, y ≠ q.1 → H'[y]? = H[y]?) → W p l e R s m args below meth c H' (locs ++ [⟨q.1, f.slot⟩]) k' n (xQ D S0 r below s A) (F0 m (pc + 3) lsA st) := by
    intro H' e1 e2 e3
    rw [hsl] at e1
    have e4 : xR D (xset S q.1 (.inr (ci, q.2.set k v))) H' := X.2.1.set ⟨_, hc, t_OB.to (V := updV (vp_V q.2) k v) ⟨_, e1, q2, q3, t_set q4 hap hk v⟩ (fun j _ => vp_updV_set hl v j)⟩ e2 e3
    have hA : A q.1 := X.2.2.2.1 q.1 (by rw [h5]; exact fun h => by cases h)
    refine kk _ h2 p l e R s m args below meth c A H' _ k' n lsA ⟨X.1, e4, X.2.2.1.put e2 e3 hA, fun y hy => ?_, X.2.2.2.2.1, X.2.2.2.2.2.1, X.2.2.2.2.2.2.1, X.2.2.2.2.2.2.2⟩
    by_cases ey : y = q.1
    · rw [ey]; exact hA
    · exact X.2.2.2.1 y (by rw [← va_up_ne S.1 (some (.inr (ci, q.2.set k v))) ey]; exact hy)
  cases host with
  | none => exact W.putK X.1.1.1 X.1.1.2.1 (f := f) ⟨X.1.1.2.2.2.2.1, hts _ hw, ⟨_, _, _, hi⟩, hst⟩ (by rw [q2]; exact h6) q1 q3 (by rw [hsl]; exact k2_hasslot (q4 k hk)) rfl rfl hd go
  | some hst' => exact va_WputK X.1.1.1 X.1.1.2.1 (f := f) X.1.1.2.2.2.2.1 (hts _ hw) hi hst (by rw [q2]; exact h6) q1 q3 (by rw [hsl]; exact k2_hasslot (q4 k hk)) rfl rfl hd go
theorem x_putF {ci index k : Nat} {C : String} {T : u_T} {N : Nat} {x : Option Nat} {v : Value} {F : xS → Option α} {z : α} (h : (xput S x ci k v).bind F = some z) (hc : xCl[ci]? = some (C, T, N)) (hin : ∀ w ∈ u_ws C T N, w ∈ xT) (ty0 : Nat → FieldType) (hty : ∀ k, k < N → parseFieldDescriptor (T k).2.2.1 = some (ty0 k)) (hnm : ∀ a, a < N → ∀ b, b < N → a ≠ b → (T a).2.1 ≠ (T b).2.1) (hk : k < N) (hfin : (T k).2.2.2 = true) (hinit : M.1.name = "<init>") (hdecl : (T k).1 = M.1.cls) (hn : narrow (ty0 k) v = v) (hfit : fits (ty0 k) v = true) (hw : Cond.fieldLink M.1.cls index (T k).1 (T k).2.1 (T k).2.2.1 ∈ xT) (hd : decode M.2.1 pc = .ok (.putfield index, 3)) (kk : ∀ S1, F S1 = some z → V M D d S0 r (pc + 3) ls st S1) : V M D d S0 r pc ls (v :: va_rf x :: st) S := by
  obtain ⟨S1, h1, h2⟩ := Option.bind_eq_some_iff.mp h
  obtain ⟨q, h3, h4⟩ := Option.bind_eq_some_iff.mp h1
  obtain ⟨rfl, h5⟩ := xobj_some h3
  split at h4
  case isFalse => cases h4
  rename_i hl
  cases h4
  intro p l e R s m args below meth c A H locs k' n lsA X
  have hts := X.1.1.2.2.2.2.2.2.1
  have hap := x_apart hts X.1.2.1 hc hin ty0 hty hnm
  obtain ⟨cell, cf, kf, fi, f, kC, q1, q2, q3, q4, hi, hsl, hst, hfc, hkC, hkind⟩ := x_field (k := k) hts X.1.2.1 X.2.1 h5 hc hin hk
  have hlay := hts _ (hin _ (u_in_lay hk))
  unfold u_lay at hlay
  rw [if_pos hfin] at hlay
  have hcf : m.cls = cf := by
    obtain ⟨_, _, c', _, _, _, -, -, hf', -, -, -, hown2, -⟩ := Cond.laysFinal_spec hlay
    have e1 : c' = cf := by have := hi.symm.trans hf'; simp at this; exact this.1.symm
    rw [hdecl] at hown2
    rw [← e1]; exact Option.some.inj (X.1.1.2.2.2.2.1.symm.trans hown2)
  have h6 := u_fits hfc hkC hkind (Or.inr hlay) hi (hty k hk) hn hfit
  refine W.putFinK X.1.1.1 X.1.1.2.1 X.1.1.2.2.2.2.1 (hts _ hw) hi hst hcf (X.1.1.2.2.2.2.2.1.trans hinit) (by rw [q2]; exact h6) q1 q3 (by rw [hsl]; exact k2_hasslot (q4 k hk)) rfl rfl hd fun H' e1 e2 e3 => ?_
  rw [hsl] at e1
  have e4 : xR D (xset S q.1 (.inr (ci, q.2.set k v))) H' := X.2.1.set ⟨_, hc, t_OB.to (V := updV (vp_V q.2) k v) ⟨_, e1, q2, q3, t_set q4 hap hk v⟩ (fun j _ => vp_updV_set hl v j)⟩ e2 e3
  have hA : A q.1 := X.2.2.2.1 q.1 (by rw [h5]; exact fun h => by cases h)
  refine kk _ h2 p l e R s m args below meth c A H' _ k' n lsA ⟨X.1, e4, X.2.2.1.put e2 e3 hA, fun y hy => ?_, X.2.2.2.2.1, X.2.2.2.2.2.1, X.2.2.2.2.2.2.1, X.2.2.2.2.2.2.2⟩
  by_cases ey : y = q.1
  · rw [ey]; exact hA
  · exact X.2.2.2.1 y (by rw [← va_up_ne S.1 (some (.inr (ci, q.2.set k v))) ey]; exact hy)
end XHEAP

section XMAKE
variable {M : xM} {D : xD} {d : Nat} {S0 : xS} {r : xRes} {pc : Nat} {ls : List (Nat × xV)} {st : List Value} {S : xS} {α : Type}
/-- a write into a known cell goes on -/
theorem x_wrote {p : Program} {l : Launch} {R : Room} {s : State} {m : MethodId} {args : Array Value} {meth : Method} {c : Code} {A : Nat → Prop} {H H' : Heap} {locs : List Loc} {k n : Nat} {lsA : Array Slot} {a i : Nat} {o o' : xO} (X : xX M D d S0 ls S p l R s m args meth c A H locs k n lsA) (h5 : S.1 a = some o) (he : x_at D a o' H') (e2 : H'.size = H.size) (e3 : ∀ y : Nat, y ≠ a → H'[y]? = H[y]?) : xX M D d S0 ls (xset S a o') p l R s m args meth c A H' (locs ++ [⟨a, i⟩]) k n lsA := by
  have hA : A a := X.2.2.2.1 a (by rw [h5]; exact fun h => by cases h)
  refine ⟨X.1, X.2.1.set he e2 e3, X.2.2.1.put e2 e3 hA, fun y hy => ?_, X.2.2.2.2.1, X.2.2.2.2.2.1, X.2.2.2.2.2.2.1, X.2.2.2.2.2.2.2⟩
  by_cases ey : y = a
  · rw [ey]; exact hA
  · exact X.2.2.2.1 y (by rw [← va_up_ne S.1 (some o') ey]; exact hy)
/-- a new cell -/
theorem x_pushed {p : Program} {l : Launch} {R : Room} {s : State} {m : MethodId} {args : Array Value} {meth : Method} {c : Code} {A : Nat → Prop} {H H' : Heap} {locs : List Loc} {k n N : Nat} {lsA : Array Slot} {o : xO} (X : xX M D d S0 ls S p l R s m args meth c A H locs k n lsA) (hlim : S.2.1 + 1 ≤ S.2.2.2.1 ∧ S.2.2.1 + N ≤ S.2.2.2.2) (he : x_at D H.size o H') (e2 : H'.size = H.size + 1) (e3 : ∀ y : Nat, y < H.size → H'[y]? = H[y]?) : xX M D d S0 ls (xpush S o N) p l R s m args meth c A H' locs (k + 1) (n + N) lsA := by
  have hs : s.heap.size ≤ H.size := X.2.2.1.1
  refine ⟨X.1, X.2.1.push N hlim he e2 e3, ⟨by omega, fun q h1 h2 => (e3 q (by omega)).trans (X.2.2.1.2.1 q h1 h2), X.2.2.1.2.2⟩, fun y hy => ?_, X.2.2.2.2.1, ?_, ?_, X.2.2.2.2.2.2.2⟩
  · by_cases ey : y = S.2.1
    · refine X.1.2.2.2.1 y ?_
      rw [ey, ← X.2.1.1]; exact hs
    · exact X.2.2.2.1 y (by rw [← va_up_ne S.1 (some o) ey]; exact hy)
  · show S0.2.1 + (k + 1) = S.2.1 + 1
    have := X.2.2.2.2.2.1
    omega
  · show S0.2.2.1 + (n + N) = S.2.2.1 + N
    have := X.2.2.2.2.2.2.1
    omega
/-- the limits leave room -/
theorem x_fit {p : Program} {l : Launch} {R : Room} {s : State} {m : MethodId} {args : Array Value} {meth : Method} {c : Code} {A : Nat → Prop} {H : Heap} {locs : List Loc} {k n N : Nat} {lsA : Array Slot} (X : xX M D d S0 ls S p l R s m args meth c A H locs k n lsA) (h1 : S.2.1 + 1 ≤ S.2.2.2.1) (h2 : S.2.2.1 + N ≤ S.2.2.2.2) : k + 1 ≤ R.cells ∧ n + N ≤ R.slots := by
  have e := X.2.2.2.2.1
  have e1 : S.2.2.2.1 = S0.2.2.2.1 := by rw [e]
  have e2 : S.2.2.2.2 = S0.2.2.2.2 := by rw [e]
  have a := X.2.2.2.2.2.1
  have b := X.2.2.2.2.2.2.1
  have c1 := X.1.2.2.2.2.2.2.1
  have c2 := X.1.2.2.2.2.2.2.2.1
  omega
theorem x_new {ci index : Nat} {C : String} {T : u_T} {N : Nat} {fs : List Value} {F : Nat × xS → Option α} {z : α} (h : (xnew S ci fs).bind F = some z) (hc : xCl[ci]? = some (C, T, N)) (hin : ∀ w ∈ u_ws C T N, w ∈ xT) (ty0 : Nat → FieldType) (hty : ∀ k, k < N → parseFieldDescriptor (T k).2.2.1 = some (ty0 k)) (hN : fs.length = N) (hfs : ∀ j, j < N → defaultValue (ty0 j) = vp_V fs j) (hcl : Cond.classLink M.1.cls index C ∈ xT) (hinst : Cond.instantiable C N ∈ xT) (hini : Cond.initialized C ∈ xT) (hd : decode M.2.1 pc = .ok (.new index, 3)) (kk : ∀ q, F q = some z → V M D d S0 r (pc + 3) ls (va_rf (some q.1) :: st) q.2) : V M D d S0 r pc ls st S := by
  obtain ⟨q, h1, h2⟩ := Option.bind_eq_some_iff.mp h
  unfold xnew at h1
  split at h1
  case isFalse => cases h1
  rename_i hlim
  cases h1
  intro p l e R s m args below meth c A H locs k n lsA X
  have hts := X.1.1.2.2.2.2.2.2.1
  have hKn := X.1.2.1.1.1 ci _ hc
  have hf := x_fit X hlim.1 hlim.2
  rw [hN] at hf
  refine W.newcK X.1.1.1 X.1.1.2.1 X.1.1.2.2.2.2.1 (hts _ hcl) (hts _ hinst) (hts _ hini) rfl hd hf.1 hf.2 hKn.2.1 rfl fun H1 kC hkC e1 z1 o1 => ?_
  have key := kk _ h2 p l e R s m args below meth c A H1 locs (k + 1) (n + N) lsA (by
    rw [← hN]
    exact x_pushed X hlim ⟨_, hc, (u_born ty0 hts hin hKn hkC e1 hty).to hfs⟩ z1 o1)
  rw [X.2.1.1]
  exact key
/-- an array of numbers -/
theorem x_newa {atype : ArrayType} {i : Nat} {ty : FieldType} {w : Int32} {g : (Nat → Int32) ⊕ (Nat → Int64) ⊕ (Nat → UInt32) ⊕ (Nat → UInt64) ⊕ (Nat → Option Nat)} {F : Nat × xS → Option α} {z : α} (h : (xnewa S i w g).bind F = some z) (hi : xAT[i]? = some ty) (hty : newarray.typeOf atype = ty) (hra : ∀ (U : State) (cA : ClassId), va_RA U cA ty = (U.vm.findClass ("[" ++ ty.toString) = some cA)) (hg : ∀ (cA : ClassId) (N : Nat), vp_cell cA (N, g) = arrV cA N (fun _ => defaultValue ty)) (hcb : componentBytes ty ≤ 8) (hcl : Cond.arrayClass ty ∈ xT) (hd : decode M.2.1 pc = .ok (.newarray atype, 2)) (kk : ∀ q, F q = some z → V M D d S0 r (pc + 2) ls (va_rf (some q.1) :: st) q.2) : V M D d S0 r pc ls (.int w :: st) S := by
  obtain ⟨q, h1, h2⟩ := Option.bind_eq_some_iff.mp h
  unfold xnewa at h1
  split at h1
  case isFalse => cases h1
  rename_i hlim
  cases h1
  subst hty
  intro p l e R s m args below meth c A H locs k n lsA X
  have hts := X.1.1.2.2.2.2.2.2.1
  have hf := x_fit X hlim.2.2.1 hlim.2.2.2
  have hb : w.toNatClampNeg * componentBytes (newarray.typeOf atype) ≤ 536870912 := Nat.le_trans (Nat.mul_le_mul hlim.2.1 hcb) (by decide)
  refine va_newaK X.1.1.1 X.1.1.2.1 (hts _ hcl) rfl hd rfl hlim.1 rfl hb hf.1 hf.2 rfl fun H1 cA e1 z1 o1 hAr hNm => ?_
  have hcA : cA = D.2.1 i := by
    have h3 := (X.1.2.1.2.1 i _ hi).2
    rw [hra] at h3
    exact Option.some.inj (hNm.symm.trans h3)
  subst hcA
  have key := kk _ h2 p l e R s m args below meth c A H1 locs (k + 1) (n + w.toNatClampNeg) lsA (x_pushed X hlim.2.2 (by
    show H1[H.size]? = some (vp_cell _ _)
    rw [hg]
    exact e1) z1 o1)
  rw [X.2.1.1]
  exact key
/-- an array of references -/
theorem x_anew {i index : Nat} {C : String} {w : Int32} {F : Nat × xS → Option α} {z : α} (h : (xnewa S i w (.inr (.inr (.inr (.inr (fun _ => none)))))).bind F = some z) (hi : xAT[i]? = some (.object C)) (hcl : Cond.classLink M.1.cls index C ∈ xT) (hov : Cond.arrayOver (.object C) ∈ xT) (hd : decode M.2.1 pc = .ok (.anewarray index, 3)) (kk : ∀ q, F q = some z → V M D d S0 r (pc + 3) ls (va_rf (some q.1) :: st) q.2) : V M D d S0 r pc ls (.int w :: st) S := by
  obtain ⟨q, h1, h2⟩ := Option.bind_eq_some_iff.mp h
  unfold xnewa at h1
  split at h1
  case isFalse => cases h1
  rename_i hlim
  cases h1
  intro p l e R s m args below meth c A H locs k n lsA X
  have hts := X.1.1.2.2.2.2.2.2.1
  have hf := x_fit X hlim.2.2.1 hlim.2.2.2
  have hb : w.toNatClampNeg * 4 ≤ 536870912 := Nat.le_trans (Nat.mul_le_mul hlim.2.1 (Nat.le_refl 4)) (by decide)
  refine W.anew X.1.1.1 X.1.1.2.1 X.1.1.2.2.2.2.1 (hts _ hcl) (hts _ hov) rfl hd rfl hlim.1 hb hf.1 hf.2 fun cA kA comp f1 f2 f3 f4 => ?_
  generalize hH1 : H.push ({ cls := cA, slots := Array.replicate w.toNatClampNeg .null, vm := .none } : Cell) = H1
  have z1 : H1.size = H.size + 1 := by rw [← hH1, Array.size_push]
  have e1 : H1[H.size]? = some (arrV cA w.toNatClampNeg (fun _ => .null)) := by rw [← hH1, Array.getElem?_push_size, ← arrV_new]
  have o1 : ∀ q : Nat, q < H.size → H1[q]? = H[q]? := fun q hq => by rw [← hH1, Array.getElem?_push, if_neg (Nat.ne_of_lt hq)]
  have hcA : cA = D.2.1 i := by
    obtain ⟨kA', comp', g1, g2, g3, g4⟩ := (X.1.2.1.2.1 i _ hi).2
    exact Option.some.inj (f1.symm.trans g4)
  subst hcA
  have key := kk _ h2 p l e R s m args below meth c A H1 locs (k + 1) (n + w.toNatClampNeg) lsA (x_pushed X hlim.2.2 (by
    show H1[H.size]? = some (vp_cell _ _)
    rw [vp_cell_q]
    exact e1) z1 o1)
  rw [X.2.1.1]
  exact key
theorem x_len {i : Nat} {ty : FieldType} {x : Option Nat} {F : Int32 → Option α} {z : α} (h : (xlen S x i).bind F = some z) (hi : xAT[i]? = some ty) (hd : decode M.2.1 pc = .ok (.arraylength, 1)) (kk : ∀ v, F v = some z → V M D d S0 r (pc + 1) ls (.int v :: st) S) : V M D d S0 r pc ls (va_rf x :: st) S := by
  obtain ⟨v, h1, h2⟩ := Option.bind_eq_some_iff.mp h
  obtain ⟨q, h3, h4⟩ := Option.bind_eq_some_iff.mp h1
  obtain ⟨rfl, h5⟩ := xarr_some h3
  cases h4
  intro p l e R s m args below meth c A H locs k n lsA X
  have hP : va_P D.1 xCl [(q.1, .inl (D.2.1 i, q.2))] H := fun j y hy => by
    have hz : j < 1 := (List.getElem?_eq_some_iff.mp hy).1
    rw [show j = 0 by omega] at hy
    cases hy
    exact X.2.1.2.1 q.1 _ h5
  have hK : va_K D.1 xCl [(D.2.1 i, ty)] s := ⟨X.1.2.1.1.1, fun j y hy => by
    have hz : j < 1 := (List.getElem?_eq_some_iff.mp hy).1
    rw [show j = 0 by omega] at hy
    cases hy
    exact X.1.2.1.2.1 i ty hi⟩
  exact va_alen X.1.1.1 X.1.1.2.1 hK hP 0 0 rfl rfl rfl hd (kk _ h2 p l e R s m args below meth c A H locs k n lsA X)
/-- an element that is an int, of an array of ints or of bytes -/
theorem x_iald {i : Nat} {x : Option Nat} {w : Int32} {F : Int32 → Option α} {z : α} (h : (xldI S x i w).bind F = some z) (hi : xAT[i]? = some .int) (hd : decode M.2.1 pc = .ok (.iaload, 1)) (kk : ∀ v, F v = some z → V M D d S0 r (pc + 1) ls (.int v :: st) S) : V M D d S0 r pc ls (.int w :: va_rf x :: st) S := by
  obtain ⟨v, h1, h2⟩ := Option.bind_eq_some_iff.mp h
  obtain ⟨q, h3, h4⟩ := Option.bind_eq_some_iff.mp h1
  obtain ⟨rfl, h5⟩ := xarr_some h3
  obtain ⟨a, N, g⟩ := q
  split at h4
  case h_2 => cases h4
  rename_i f hf
  split at h4
  case isFalse => cases h4
  rename_i hin
  cases h4
  dsimp only at hf
  subst hf
  intro p l e R s m args below meth c A H locs k n lsA X
  have hlt : w.toNatClampNeg < N := Nat.not_le.mp fun q => hin (Or.inr q)
  exact W.iald (v := .int (f w.toNatClampNeg)) X.1.1.1 X.1.1.2.1 (X.2.1.2.1 a _ h5) ((X.1.2.1.2.1 i _ hi).1 N (fun j => .int (f j))) (fun q => by cases q) (by show ¬ (w < 0 ∨ (arrV _ _ _).slots.size ≤ _); rw [arrV_size]; exact hin) (by show (arrV _ _ _).slots[_]? = _; rw [arrV_read _ _ hlt]) rfl rfl hd (kk _ h2 p l e R s m args below meth c A H locs k n lsA X)
theorem x_bald {i : Nat} {x : Option Nat} {w : Int32} {F : Int32 → Option α} {z : α} (h : (xldI S x i w).bind F = some z) (hi : xAT[i]? = some .byte) (hd : decode M.2.1 pc = .ok (.baload, 1)) (kk : ∀ v, F v = some z → V M D d S0 r (pc + 1) ls (.int v :: st) S) : V M D d S0 r pc ls (.int w :: va_rf x :: st) S := by
  obtain ⟨v, h1, h2⟩ := Option.bind_eq_some_iff.mp h
  obtain ⟨q, h3, h4⟩ := Option.bind_eq_some_iff.mp h1
  obtain ⟨rfl, h5⟩ := xarr_some h3
  obtain ⟨a, N, g⟩ := q
  split at h4
  case h_2 => cases h4
  rename_i f hf
  split at h4
  case isFalse => cases h4
  rename_i hin
  cases h4
  dsimp only at hf
  subst hf
  intro p l e R s m args below meth c A H locs k n lsA X
  have hlt : w.toNatClampNeg < N := Nat.not_le.mp fun q => hin (Or.inr q)
  exact W.bald (v := .int (f w.toNatClampNeg)) X.1.1.1 X.1.1.2.1 (X.2.1.2.1 a _ h5) ((X.1.2.1.2.1 i _ hi).1 N (fun j => .int (f j))) (fun q => by cases q) (by show ¬ (w < 0 ∨ (arrV _ _ _).slots.size ≤ _); rw [arrV_size]; exact hin) (by show (arrV _ _ _).slots[_]? = _; rw [arrV_read _ _ hlt]) rfl rfl hd (kk _ h2 p l e R s m args below meth c A H locs k n lsA X)
theorem x_lald {i : Nat} {x : Option Nat} {w : Int32} {F : Int64 → Option α} {z : α} (h : (xldL S x i w).bind F = some z) (hi : xAT[i]? = some .long) (hd : decode M.2.1 pc = .ok (.laload, 1)) (kk : ∀ v, F v = some z → V M D d S0 r (pc + 1) ls (.long v :: st) S) : V M D d S0 r pc ls (.int w :: va_rf x :: st) S := by
  obtain ⟨v, h1, h2⟩ := Option.bind_eq_some_iff.mp h
  obtain ⟨q, h3, h4⟩ := Option.bind_eq_some_iff.mp h1
  obtain ⟨rfl, h5⟩ := xarr_some h3
  obtain ⟨a, N, g⟩ := q
  split at h4
  case h_2 => cases h4
  rename_i f hf
  split at h4
  case isFalse => cases h4
  rename_i hin
  cases h4
  dsimp only at hf
  subst hf
  intro p l e R s m args below meth c A H locs k n lsA X
  have hlt : w.toNatClampNeg < N := Nat.not_le.mp fun q => hin (Or.inr q)
  exact W.lald (v := .long (f w.toNatClampNeg)) X.1.1.1 X.1.1.2.1 (X.2.1.2.1 a _ h5) ((X.1.2.1.2.1 i _ hi).1 N (fun j => .long (f j))) (fun q => by cases q) (by show ¬ (w < 0 ∨ (arrV _ _ _).slots.size ≤ _); rw [arrV_size]; exact hin) (by show (arrV _ _ _).slots[_]? = _; rw [arrV_read _ _ hlt]) rfl rfl hd (kk _ h2 p l e R s m args below meth c A H locs k n lsA X)
theorem x_aald {i : Nat} {C : String} {x : Option Nat} {w : Int32} {F : Option Nat → Option α} {z : α} (h : (xldR S x i w).bind F = some z) (hi : xAT[i]? = some (.object C)) (hd : decode M.2.1 pc = .ok (.aaload, 1)) (kk : ∀ v, F v = some z → V M D d S0 r (pc + 1) ls (va_rf v :: st) S) : V M D d S0 r pc ls (.int w :: va_rf x :: st) S := by
  obtain ⟨v, h1, h2⟩ := Option.bind_eq_some_iff.mp h
  obtain ⟨q, h3, h4⟩ := Option.bind_eq_some_iff.mp h1
  obtain ⟨rfl, h5⟩ := xarr_some h3
  obtain ⟨a, N, g⟩ := q
  split at h4
  case h_2 => cases h4
  rename_i f hf
  split at h4
  case isFalse => cases h4
  rename_i hin
  cases h4
  dsimp only at hf
  subst hf
  intro p l e R s m args below meth c A H locs k n lsA X
  have hlt : w.toNatClampNeg < N := Nat.not_le.mp fun q => hin (Or.inr q)
  exact W.aald (v := va_rf (f w.toNatClampNeg)) X.1.1.1 X.1.1.2.1 (X.2.1.2.1 a _ h5) ((X.1.2.1.2.1 i _ hi).1 N (fun j => va_rf (f j))) rfl (fun q => by cases q) (by show ¬ (w < 0 ∨ (arrV _ _ _).slots.size ≤ _); rw [arrV_size]; exact hin) (by show (arrV _ _ _).slots[_]? = _; rw [arrV_read _ _ hlt]) rfl rfl hd (kk _ h2 p l e R s m args below meth c A H locs k n lsA X)
theorem x_iast {i : Nat} {x : Option Nat} {w v : Int32} {F : xS → Option α} {z : α} (h : (xstI S x i w v).bind F = some z) (hi : xAT[i]? = some .int) (hd : decode M.2.1 pc = .ok (.iastore, 1)) (kk : ∀ S1, F S1 = some z → V M D d S0 r (pc + 1) ls st S1) : V M D d S0 r pc ls (.int v :: .int w :: va_rf x :: st) S := by
  obtain ⟨S1, h1, h2⟩ := Option.bind_eq_some_iff.mp h
  obtain ⟨q, h3, h4⟩ := Option.bind_eq_some_iff.mp h1
  obtain ⟨rfl, h5⟩ := xarr_some h3
  obtain ⟨a, N, g⟩ := q
  split at h4
  case h_2 => cases h4
  rename_i f hf
  split at h4
  case isFalse => cases h4
  rename_i hin
  cases h4
  dsimp only at hf
  subst hf
  intro p l e R s m args below meth c A H locs k n lsA X
  refine W.iast X.1.1.1 X.1.1.2.1 (X.2.1.2.1 a _ h5) ((X.1.2.1.2.1 i _ hi).1 N (fun j => .int (f j))) (fun q => by cases q) (by show ¬ (w < 0 ∨ (arrV _ _ _).slots.size ≤ _); rw [arrV_size]; exact hin) rfl rfl hd fun H1 e1 z1 oq => kk _ h2 p l e R s m args below meth c A H1 _ k n lsA (x_wrote X h5 ?_ z1 oq)
  show H1[a]? = some (vp_cell _ _)
  rw [e1, vp_cell_i, vp_cell_i, arrV_store]
  congr 2
  funext q
  by_cases hq : q = w.toNatClampNeg
  · subst hq
    simp [updV, upd]
  · simp [updV, upd, hq]
theorem x_bast {i : Nat} {x : Option Nat} {w v : Int32} {F : xS → Option α} {z : α} (h : (xstI S x i w (vp_nar .byte v)).bind F = some z) (hi : xAT[i]? = some .byte) (hd : decode M.2.1 pc = .ok (.bastore, 1)) (kk : ∀ S1, F S1 = some z → V M D d S0 r (pc + 1) ls st S1) : V M D d S0 r pc ls (.int v :: .int w :: va_rf x :: st) S := by
  obtain ⟨S1, h1, h2⟩ := Option.bind_eq_some_iff.mp h
  obtain ⟨q, h3, h4⟩ := Option.bind_eq_some_iff.mp h1
  obtain ⟨rfl, h5⟩ := xarr_some h3
  obtain ⟨a, N, g⟩ := q
  split at h4
  case h_2 => cases h4
  rename_i f hf
  split at h4
  case isFalse => cases h4
  rename_i hin
  cases h4
  dsimp only at hf
  subst hf
  intro p l e R s m args below meth c A H locs k n lsA X
  refine W.bast X.1.1.1 X.1.1.2.1 (X.2.1.2.1 a _ h5) ((X.1.2.1.2.1 i _ hi).1 N (fun j => .int (f j))) (fun q => by cases q) (by show ¬ (w < 0 ∨ (arrV _ _ _).slots.size ≤ _); rw [arrV_size]; exact hin) rfl rfl hd fun H1 e1 z1 oq => kk _ h2 p l e R s m args below meth c A H1 _ k n lsA (x_wrote X h5 ?_ z1 oq)
  show H1[a]? = some (vp_cell _ _)
  rw [e1, vp_cell_i, vp_cell_i, arrV_store]
  congr 2
  funext q
  by_cases hq : q = w.toNatClampNeg
  · subst hq
    simp [updV, upd]
    try rfl
  · simp [updV, upd, hq]
theorem x_last {i : Nat} {x : Option Nat} {w : Int32} {v : Int64} {F : xS → Option α} {z : α} (h : (xstL S x i w v).bind F = some z) (hi : xAT[i]? = some .long) (hd : decode M.2.1 pc = .ok (.lastore, 1)) (kk : ∀ S1, F S1 = some z → V M D d S0 r (pc + 1) ls st S1) : V M D d S0 r pc ls (.long v :: .int w :: va_rf x :: st) S := by
  obtain ⟨S1, h1, h2⟩ := Option.bind_eq_some_iff.mp h
  obtain ⟨q, h3, h4⟩ := Option.bind_eq_some_iff.mp h1
  obtain ⟨rfl, h5⟩ := xarr_some h3
  obtain ⟨a, N, g⟩ := q
  split at h4
  case h_2 => cases h4
  rename_i f hf
  split at h4
  case isFalse => cases h4
  rename_i hin
  cases h4
  dsimp only at hf
  subst hf
  intro p l e R s m args below meth c A H locs k n lsA X
  refine W.last X.1.1.1 X.1.1.2.1 (X.2.1.2.1 a _ h5) ((X.1.2.1.2.1 i _ hi).1 N (fun j => .long (f j))) (fun q => by cases q) (by show ¬ (w < 0 ∨ (arrV _ _ _).slots.size ≤ _); rw [arrV_size]; exact hin) rfl rfl hd fun H1 e1 z1 oq => kk _ h2 p l e R s m args below meth c A H1 _ k n lsA (x_wrote X h5 ?_ z1 oq)
  show H1[a]? = some (vp_cell _ _)
  rw [e1, vp_cell_l, vp_cell_l, arrV_store]
  congr 2
  funext q
  by_cases hq : q = w.toNatClampNeg
  · subst hq
    simp [updV, vp_updL]
  · simp [updV, vp_updL, hq]
theorem x_aast {i ci : Nat} {C : String} {T : u_T} {N' : Nat} {x y : Option Nat} {w : Int32} {F : xS → Option α} {z : α} (h : (xstR S x i ci w y).bind F = some z) (hi : xAT[i]? = some (.object C)) (hc : xCl[ci]? = some (C, T, N')) (hd : decode M.2.1 pc = .ok (.aastore, 1)) (kk : ∀ S1, F S1 = some z → V M D d S0 r (pc + 1) ls st S1) : V M D d S0 r pc ls (va_rf y :: .int w :: va_rf x :: st) S := by
  obtain ⟨S1, h1, h2⟩ := Option.bind_eq_some_iff.mp h
  obtain ⟨q, h3, h4⟩ := Option.bind_eq_some_iff.mp h1
  obtain ⟨rfl, h5⟩ := xarr_some h3
  obtain ⟨a, N, g⟩ := q
  split at h4
  case h_2 => cases h4
  rename_i f hf
  split at h4
  case isFalse => cases h4
  rename_i hin
  cases h4
  dsimp only at hf
  subst hf
  obtain ⟨hin, hy⟩ := hin
  intro p l e R s m args below meth c A H locs k n lsA X
  have hlt : w.toNatClampNeg < N := Nat.not_le.mp fun q => hin (Or.inr q)
  have h0 : ¬ w < 0 := fun q => hin (Or.inl q)
  have fin : ∀ (H1 : Heap) (locs1 : List Loc), H1[a]? = some ((vp_cell (D.2.1 i) (N, .inr (.inr (.inr (.inr f))))).setSlot w.toNatClampNeg (va_rf y)) → H1[a]? = some (vp_cell (D.2.1 i) (N, .inr (.inr (.inr (.inr (va_up f w.toNatClampNeg y)))))) := by
    intro H1 _ e1
    rw [e1, vp_cell_q, vp_cell_q, arrV_store]
    congr 2
    funext q
    by_cases hq : q = w.toNatClampNeg
    · subst hq
      simp [updV, va_up]
    · simp [updV, va_up, hq]
  cases y with
  | none =>
    exact va_WaastN X.1.1.1 X.1.1.2.1 (X.2.1.2.1 a _ h5) ((X.1.2.1.2.1 i _ hi).1 N (fun j => va_rf (f j))) (fun q => by cases q) (by show ¬ (w < 0 ∨ (arrV _ _ _).slots.size ≤ _); rw [arrV_size]; exact hin) rfl rfl hd fun H1 e1 z1 oq => kk _ h2 p l e R s m args below meth c A H1 _ k n lsA (x_wrote X h5 (fin H1 locs e1) z1 oq)
  | some v =>
    have hv : (xobj S (some v) ci).isSome = true := by
      rcases hy with hy | hy
      · cases hy
      · exact hy
    obtain ⟨qv, hqv⟩ := Option.isSome_iff_exists.mp hv
    obtain ⟨ev, h6⟩ := xobj_some hqv
    obtain ⟨r', hr', cellV, g1, g2, g3, -⟩ := X.2.1.2.1 qv.1 _ h6
    have hvv : qv.1 = v := (Option.some.inj ev).symm
    rw [hvv] at g1
    have hcls := (X.1.2.1.1.1 ci _ hc).2
    obtain ⟨kA, comp, k1, k2, k3, -⟩ := (X.1.2.1.2.1 i _ hi).2
    have hcomp : comp = D.1.1 ci := Option.some.inj (k3.symm.trans hcls.1)
    subst hcomp
    obtain ⟨kC, hkC, -⟩ := hcls.2
    exact W.aast X.1.1.1 X.1.1.2.1 (X.2.1.2.1 a _ h5) (fun q h => by cases h) (fun h => by cases h) k1 k2 rfl hkC ⟨h0, by show _ < (arrV _ _ _).slots.size; rw [arrV_size]; exact hlt⟩ g1 (fun q h => by rw [g3] at h; cases h) (by rw [g2]; exact hkC) (by rw [g2]; exact va_assign hcls) rfl rfl hd fun H1 e1 z1 oq => kk _ h2 p l e R s m args below meth c A H1 _ k n lsA (x_wrote X h5 (fin H1 locs e1) z1 oq)
/-! ENDS -/
theorem x_done {p : Program} {l : Launch} {R : Room} {s : State} {m : MethodId} {args : Array Value} {below : List Frame} {meth : Method} {c : Code} {A : Nat → Prop} {H : Heap} {locs : List Loc} {k n : Nat} {lsA : Array Slot} {v : Option Value} (X : xX M D d S0 ls S p l R s m args meth c A H locs k n lsA) (t : State) (h : MQ below (fun _ _ o t => o = .returned v ∧ t.heap = H) args s k n A t) : xQ D S0 (.inl v, S) below s A t := by
  obtain ⟨o, h1, h2, ⟨h3, h4⟩, L, ⟨-, h6, h7⟩, h8⟩ := h
  refine ⟨o, h1, h2, h3, by rw [h4]; exact X.2.1, h6, ⟨L, k, n, h7, X.2.2.2.2.2.1, X.2.2.2.2.2.2.1, h8⟩, X.2.2.2.1, X.2.2.1.F h4, X.2.2.2.2.1⟩
theorem x_iret {v : Int32} (hr : M.2.2.2.1 = some .int) (hd : decode M.2.1 pc = .ok (.ireturn, 1)) : V M D d S0 (.inl (some (.int v)), S) pc ls [.int v] S :=
  fun p l e R s m args below meth c A H locs k n lsA X => W.mono (x_done X) (W.iret (Qc := fun _ _ o t => o = .returned (some (.int v)) ∧ t.heap = H) X.1.1.1 X.1.1.2.1 (X.1.1.2.2.2.1.trans hr) (fun t ht _ => ⟨rfl, ht⟩) X.2.2.1.2.2 hd X.1.1.2.2.2.2.2.2.2.1)
theorem x_zret {v : Int32} (hr : M.2.2.2.1 = some .boolean) (hv : v = 0 ∨ v = 1) (hd : decode M.2.1 pc = .ok (.ireturn, 1)) : V M D d S0 (.inl (some (.int v)), S) pc ls [.int v] S :=
  fun p l e R s m args below meth c A H locs k n lsA X => W.mono (x_done X) (W.zret (Qc := fun _ _ o t => o = .returned (some (.int v)) ∧ t.heap = H) X.1.1.1 X.1.1.2.1 (X.1.1.2.2.2.1.trans hr) (by rcases hv with rfl | rfl <;> decide) (fun t ht _ => ⟨rfl, ht⟩) X.2.2.1.2.2 hd X.1.1.2.2.2.2.2.2.2.1)
theorem x_vret (hr : M.2.2.2.1 = none) (hd : decode M.2.1 pc = .ok (.return_, 1)) : V M D d S0 (.inl none, S) pc ls [] S :=
  fun p l e R s m args below meth c A H locs k n lsA X => W.mono (x_done X) (W.vret (Qc := fun _ _ o t => o = .returned none ∧ t.heap = H) X.1.1.1 X.1.1.2.1 (X.1.1.2.2.2.1.trans hr) (fun t ht _ => ⟨rfl, ht⟩) X.2.2.1.2.2 hd X.1.1.2.2.2.2.2.2.2.1)
theorem x_aret {C : String} {x : Option Nat} (hr : M.2.2.2.1 = some (.object C)) (hd : decode M.2.1 pc = .ok (.areturn, 1)) : V M D d S0 (.inl (some (va_rf x)), S) pc ls [va_rf x] S :=
  fun p l e R s m args below meth c A H locs k n lsA X => W.mono (x_done X) (W.aret (Qc := fun _ _ o t => o = .returned (some (va_rf x)) ∧ t.heap = H) X.1.1.1 X.1.1.2.1 (X.1.1.2.2.2.1.trans hr) (Or.inl ⟨_, rfl⟩) (va_rf_or x) (fun t ht _ => ⟨rfl, ht⟩) X.2.2.1.2.2 hd X.1.1.2.2.2.2.2.2.2.1)
/-- the script -/
def xsld (sc : Nat × Nat × (Nat → Int32)) (w : Int32) : Option Int32 := if ¬ (w < 0 ∨ sc.2.1 ≤ w.toNatClampNeg) then some (sc.2.2 w.toNatClampNeg) else none
theorem x_sld {w : Int32} {F : Int32 → Option α} {z : α} (hm : M.1.name = "law") (h : (xsld D.2.2 w).bind F = some z) (hd : decode M.2.1 pc = .ok (.iaload, 1)) (kk : ∀ v, F v = some z → V M D d S0 r (pc + 1) ls (.int v :: st) S) : V M D d S0 r pc ls (.int w :: va_rf (some D.2.2.1) :: st) S := by
  obtain ⟨v, h1, h2⟩ := Option.bind_eq_some_iff.mp h
  unfold xsld at h1
  split at h1
  case isFalse => cases h1
  rename_i hin
  cases h1
  intro p l e R s m args below meth c A H locs k n lsA X
  have hl := X.1.2.2.2.2.2.2.2.2.1 hm
  exact va_sld X.1.1.1 X.1.1.2.1 hl.1 hl.2.1 hl.2.2 X.2.2.1 hin hd (kk _ h2 p l e R s m args below meth c A H locs k n lsA X)
theorem x_slen (hm : M.1.name = "law") (hd : decode M.2.1 pc = .ok (.arraylength, 1)) (kk : V M D d S0 r (pc + 1) ls (.int (Int32.ofNat D.2.2.2.1) :: st) S) : V M D d S0 r pc ls (va_rf (some D.2.2.1) :: st) S := by
  intro p l e R s m args below meth c A H locs k n lsA X
  have hl := X.1.2.2.2.2.2.2.2.2.1 hm
  exact va_slen X.1.1.1 X.1.1.2.1 hl.1 hl.2.1 hl.2.2 X.2.2.1 hd (kk p l e R s m args below meth c A H locs k n lsA X)
end XMAKE
