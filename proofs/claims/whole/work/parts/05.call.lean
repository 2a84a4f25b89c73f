/-! CALLS -/
def xcode (M : xM) : Cond := match M.2.2.2.2 with
  | [] => .code M.1 M.2.1 M.2.2.1 M.2.2.2.1
  | hs => .codeWith M.1 M.2.1 M.2.2.1 M.2.2.2.1 hs
theorem xcode_spec {M : xM} {args : Array Value} {s : State} {m : MethodId} (hn : s.methodNamed? M.1 = some m) (h : (xcode M).before args s = true) :
    ∃ meth c, s.vm.method? m = some meth ∧ meth.code = some c ∧ c.code = M.2.1 ∧ c.maxLocals = M.2.2.1 ∧ meth.sig.returnType = M.2.2.2.1 ∧ meth.locks = false ∧ c.exceptionTable.toList.map (fun h => (h.startPc, h.endPc, h.handlerPc, h.catchType)) = M.2.2.2.2 ∧ parseMethodDescriptor M.1.desc = some meth.sig := by
  obtain ⟨y, cc, nL, ret, hs⟩ := M
  cases hs with
  | nil =>
    obtain ⟨meth, c, h1, h2, h3, h4, h5, h6, h7, h8⟩ := Cond.code_spec (x := y) (bytes := cc) (maxLocals := nL) (ret := ret) hn h
    exact ⟨meth, c, h1, h2, h3, h4, h5, h6, by rw [Array.isEmpty_iff.mp h7]; rfl, h8⟩
  | cons a t =>
    obtain ⟨m', meth, c, e, h1, h2, h3, h4, h5, h6, h7, h8⟩ := Cond.codeWith_spec (x := y) (bytes := cc) (maxLocals := nL) (ret := ret) (handlers := a :: t) h
    cases hn.symm.trans e
    exact ⟨meth, c, h1, h2, h3, h4, h6, h7, h5, h8⟩
theorem xcode_named {M : xM} {args : Array Value} {s : State} (h : (xcode M).before args s = true) : ∃ m, s.methodNamed? M.1 = some m := by
  obtain ⟨y, cc, nL, ret, hs⟩ := M
  cases hs with
  | nil => exact Cond.code_named (x := y) (bytes := cc) (maxLocals := nL) (ret := ret) h
  | cons a t =>
    obtain ⟨m', meth, c, e, -⟩ := Cond.codeWith_spec (x := y) (bytes := cc) (maxLocals := nL) (ret := ret) (handlers := a :: t) h
    exact ⟨m', e⟩
def xRoom (d : Nat) (S : xS) : Room := { frames := d, cells := S.2.2.2.1 - S.2.1, slots := S.2.2.2.2 - S.2.2.1, locals := xL * d }
def xMet (l : Launch) (M : xM) (D : xD) (d : Nat) (ax : List xV) (S : xS) (r : xRes) : Prop := l.stackTraces = false →
  MetFree l M.1 (headSpec (xcode M :: xT) (xRoom d S)) (fun v U => v = (ax.map xval).toArray ∧ xR D S U.heap ∧ xK D U ∧ xZ (xA S) U U.heap) (fun _ _ _ _ _ => True) (fun _ st o t => xEnd D S r (xA S) st o t)
def xwid : List xV → Nat
  | [] => 0
  | v :: vs => (if xtwo v = true then 2 else 1) + xwid vs
theorem xwid_eq (ax : List xV) : (lg_sl (ax.map xval)).length = xwid ax := by
  induction ax with
  | nil => rfl
  | cons v vs ih =>
    have h : ((xval v).category = 2) = (xtwo v = true) := by rw [← xval_cat]; simp
    simp only [lg_sl, List.map_cons, List.flatMap_cons, List.length_append, xwid] at ih ⊢
    rw [ih]
    simp only [h]
    split <;> rfl
theorem x_ofV {M : xM} {D : xD} {d : Nat} {ax : List xV} {S : xS} {r : xRes} {l : Launch} (hp : plainName M.1.cls = true) (hnl : M.1.name ≠ "law") (hlen : xwid ax ≤ M.2.2.1) (h : V M D d S r 0 (xargs 0 ax) [] S) : xMet l M D d ax S r := by
  intro hst
  refine MetFree.of_bodyS (code := M.2.1) (maxLocals := M.2.2.1) (ret := M.2.2.2.1) hp ?_ ?_
  · intro args s m hpre hn
    obtain ⟨meth, c, h1, h2, h3, h4, h5, h6, -, -⟩ := xcode_spec hn (atoms_spec (ws := xcode M :: xT) hpre _ List.mem_cons_self)
    exact ⟨meth, c, h1, h2, h3, h4, h5, h6⟩
  · intro p e s m args below meth c s₁ B hml hP _
    obtain ⟨rfl, hR, hK, hZ⟩ := hP
    have hh0 : s₁.heap = s.heap := by rw [B.state]; rfl
    have hts := atoms_spec (ws := xcode M :: xT) B.pre
    obtain ⟨meth', c', q1, q2, q3, q4, q5, q6, q7, q8⟩ := xcode_spec B.named (hts _ List.mem_cons_self)
    cases B.method.symm.trans q1
    cases (Stand.of_body B).code.symm.trans q2
    have key := h p l e (xRoom d S) s m (ax.map xval).toArray below meth c (xA S) s.heap [] 0 0 _ ⟨⟨⟨B.exec, B.bytes, hml, B.returns, findClass_of_methodNamed B.named, (name_of_methodNamed B.named B.method).1, fun w hw => hts w (List.mem_cons_of_mem _ hw), B.notSynchronized, q7⟩, hK, hR.1, fun q hq => Or.inr (by rw [← hR.1]; exact hq), Nat.le_refl _, Nat.le_refl _, by show _ ≤ _ + (_ - _); omega, by show _ ≤ _ + (_ - _); omega, fun h => absurd h hnl, hst, hZ⟩, hR, va_S.rf, fun q hq => Or.inl hq, rfl, rfl, rfl, by rw [← xlv_args]; exact lv_entry (ax.map xval) (by rw [xwid_eq]; exact hlen)⟩
    rw [← lg_entry_eq] at key
    obtain ⟨t, a1, o, b1, b2, b3⟩ := key s₁ hh0 (Stand.of_body B)
    exact ⟨t, o, a1, b1, b2, b3⟩
section XCALL
variable {p : Program} {l : Launch} {e : Env} {R : Room} {s : State} {m : MethodId} {args : Array Value} {below : List Frame} {meth : Method} {c : Code} {T : State} {locs : List Loc} {k n : Nat}
/-- a method that has an end is entered from the frame g and comes to it -/
theorem x_enter (X : Stand p l e R s m args below meth c T locs k n) {M' : xM} {D : xD} {d' : Nat} {ax : List xV} {S : xS} {r1 : xRes} (hM : xMet l M' D d' ax S r1) {g : JFrame} (hg : g.method = m) (hsize : g.locals.size = c.maxLocals) {ig : Instr} {len : Nat} (hdg : decode c.code g.pc = .ok (ig, len)) {mk : MethodId} (hn : s.methodNamed? M'.1 = some mk) (hts : ∀ w ∈ xT, w.before args s = true) (hcode : xcode M' ∈ xT) (hini : Cond.initialized M'.1.cls ∈ xT) (hframes : d' + 1 ≤ R.frames) (hlocals : 2 * g.monitorRoom + (g.stack.map fun v => v.category).sum + (M'.2.2.1 + 11) + xL * d' ≤ R.locals) (hcells : k + (S.2.2.2.1 - S.2.1) ≤ R.cells) (hslots : n + (S.2.2.2.2 - S.2.2.1) ≤ R.slots) (hR : xR D S T.heap) (hK : xK D s) (hst : l.stackTraces = false) (hZ : xZ (xA S) T T.heap) :
    ∃ (o : Outcome) (t : State), Steps p.tables e below (doInvoke e (T.setTop g) [] mk (ax.map xval).toArray).1 t ∧ Ended t (.java g :: below) o ∧ xEnd D S r1 (xA S) (T.calling g mk (ax.map xval).toArray) o t := by
  have hw : ∀ w ∈ xT, ∀ a' : Array Value, w.before a' T = true := fun w h a' => x_word X.warmed (xT_good h) (hts w h)
  have hn' : T.methodNamed? M'.1 = some mk := X.named hn
  obtain ⟨methY, cY, hmY, hcY, -, hlY, -, -, -, -⟩ := xcode_spec hn' (hw _ hcode #[])
  obtain ⟨kY, hkY, -⟩ := className_of_methodNamed hn'
  have hinitY : kY.init = .initialized := Cond.initialized_spec (findClass_of_methodNamed hn') hkY (hw _ hini #[])
  have h : At T g.method c below := by rw [hg]; exact X.here
  have happ : (headSpec (xcode M' :: xT) (xRoom d' S)).appliesLoose M'.1 e.platform (T.calling g mk (ax.map xval).toArray) = true :=
    Spec.appliesLoose_calling (g := g) h hdg hn' hkY hinitY
      (X.room_calling (g := g) (R' := xRoom d' S) hsize hmY hcY hframes (by rw [hlY]; exact hlocals) hcells hslots) (atoms_intro fun w hw' => by
        rcases List.mem_cons.mp hw' with rfl | h1
        · exact hw _ hcode _
        · exact hw _ h1 _)
  obtain ⟨mid, hmid⟩ := h.above
  have hfr : (T.setTop g).frames = (.java g :: mid) ++ below := by rw [State.frames_setTop' g h.top, hmid]; rfl
  obtain ⟨o, s₂, hsteps, -, hend, hq⟩ := Steps.callFree (hM hst) p X.admits X.cas X.clock (acts := []) hfr happ ⟨rfl, hR, xK.moved X.warmed.alike hK, hZ⟩ trivial
  rw [State.frames_setTop' g h.top, X.tail] at hend
  exact ⟨o, s₂, hsteps, hend, hq⟩
end XCALL
section XCALLS
variable {M : xM} {D : xD} {d : Nat} {S0 : xS} {r : xRes} {pc : Nat} {ls : List (Nat × xV)} {st stk : List Value} {S : xS}
/-- the link of a method: in its own class, or in a nest mate's -/
def xml (own : String) (index : Nat) (y : MethodName) (host : Option String) : Cond := match host with
  | none => .methodLink own index y
  | some h => .methodLinkNest own index y h
/-- the handler at hpc is the one that takes a throw of class e at pc -/
def xHnd (own : String) (hs : List (Nat × Nat × Nat × Nat)) (pc e hpc : Nat) : Prop := e < 3 ∧ Cond.castable (xE e) (xE e) ∈ xT ∧ ∃ (pre : List (Nat × Nat × Nat × Nat)) (st en ct : Nat) (suf : List (Nat × Nat × Nat × Nat)), hs = pre ++ (st, en, hpc, ct) :: suf ∧ st ≤ pc ∧ pc < en ∧ ct ≠ 0 ∧ Cond.classLink own ct (xE e) ∈ xT ∧ ∀ q ∈ pre, q.2.2.2 ≠ 0 ∧ ∃ j : Nat, j < 3 ∧ j ≠ e ∧ Cond.classLink own q.2.2.2 (xE j) ∈ xT
/-- what a throw in a method does, at a pc: it leaves a method that has no handlers; else a handler takes it -/
def xThrown (M : xM) (D : xD) (d : Nat) (S0 : xS) (r : xRes) (pc : Nat) (ls : List (Nat × xV)) (e : Nat) (S : xS) : Prop := match M.2.2.2.2 with
  | [] => r = (.inr e, S)
  | hs => ∃ hpc, xHnd M.1.cls hs pc e hpc ∧ ∀ a : Nat, V M D d S0 r hpc ls [va_rf (some a)] S
/-- behind a call -/
def xAfter (M : xM) (D : xD) (d : Nat) (S0 : xS) (r : xRes) (pc : Nat) (ls : List (Nat × xV)) (st : List Value) (r1 : xRes) : Prop := match r1.1 with
  | .inl v => V M D d S0 r (pc + 3) ls (v.toList ++ st) r1.2
  | .inr e => xThrown M D d S0 r pc ls e r1.2
/-- a state that throws, in a method without handlers -/
theorem x_leave {p : Program} {l : Launch} {e : Env} {R : Room} {s : State} {m : MethodId} {args : Array Value} {below : List Frame} {meth : Method} {c : Code} {A : Nat → Prop} {T : State} {locs : List Loc} {k n : Nat} {ls : List (Nat × xV)} {lsA : Array Slot} {ec a : Nat} {cell : Cell} (X : xX M D d S0 ls S p l R s m args meth c A T.heap locs k n lsA) (Xs : Stand p l e R s m args below meth c T locs k n) (hh : M.2.2.2.2 = []) (h1 : T.heap[a]? = some cell) (h2 : cell.vm = .none) (h3 : T.vm.findClass (xE ec) = some cell.cls) :
    ∃ t, Steps p.tables e below ((T.setTop (F0 m pc lsA st)).pushFrame (.throwing a)) t ∧ xQ D S0 (.inr ec, S) below s A t := by
  have hl : meth.locks = false := X.1.1.2.2.2.2.2.2.2.1
  have hout : ∀ x ∈ c.exceptionTable.toList, covers x pc = false := by
    have h := X.1.1.2.2.2.2.2.2.2.2
    rw [hh] at h
    rw [List.map_eq_nil_iff.mp h]
    exact fun x hx => by cases hx
  obtain ⟨l1, l2, l3, l4, l5⟩ := Xs.leaveThrown a (g := F0 m pc lsA st) rfl rfl rfl hout hl
  exact ⟨_, l1, .threw a, l2, l3, ⟨a, cell, rfl, h1, h2, h3⟩, X.2.1, l4, ⟨locs, k, n, l5, X.2.2.2.2.2.1, X.2.2.2.2.2.2.1, X.2.2.1.2.2⟩, X.2.2.2.1, X.2.2.1.F rfl, X.2.2.2.2.1⟩
theorem x_caught {hpc : Nat} {p : Program} {l : Launch} {e : Env} {R : Room} {s : State} {m : MethodId} {args : Array Value} {below : List Frame} {meth : Method} {c : Code} {A : Nat → Prop} {T : State} {locs : List Loc} {k n : Nat} {ls : List (Nat × xV)} {lsA : Array Slot} {ec a : Nat} {cell : Cell} (X : xX M D d S0 ls S p l R s m args meth c A T.heap locs k n lsA) (Xs : Stand p l e R s m args below meth c T locs k n) (hh : xHnd M.1.cls M.2.2.2.2 pc ec hpc) (h1 : T.heap[a]? = some cell) (h2 : cell.vm = .none) (h3 : T.vm.findClass (xE ec) = some cell.cls) (kk : V M D d S0 r hpc ls [va_rf (some a)] S) :
    ∃ t, Steps p.tables e below ((T.setTop (F0 m pc lsA st)).pushFrame (.throwing a)) t ∧ xQ D S0 r below s A t := by
  obtain ⟨he, hcast, pre, sp, en, ct, suf, hsp, hp1, hp2, h0, hlink, hpre⟩ := hh
  have hts := X.1.1.2.2.2.2.2.2.1
  have htab := X.1.1.2.2.2.2.2.2.2.2
  rw [hsp] at htab
  obtain ⟨pre', suf', e1, e2, e3⟩ := List.map_eq_append_iff.mp htab
  obtain ⟨x, suf2, e4, e5, e6⟩ := List.map_eq_cons_iff.mp e3
  have hcl : s.vm.findClass (xE ec) = some cell.cls := by rw [← Xs.warmed.alike.findClass]; exact h3
  have hpl : e.platform.magicAccessors = ({} : Platform).magicAccessors := by rw [Xs.admits.platform]
  obtain ⟨c3, c4, hc3, hc4, hasg⟩ := Cond.castable_spec (hts _ hcast)
  cases Option.some.inj (hc3.symm.trans hcl)
  obtain ⟨c5, hc5, hcl5⟩ := Cond.classLink_spec X.1.1.2.2.2.2.1 (hts _ hlink) e.platform hpl
  cases Option.some.inj (hc4.symm.trans hc5)
  have ex : x.startPc = sp ∧ x.endPc = en ∧ x.handlerPc = hpc ∧ x.catchType = ct := by
    simp only [Prod.mk.injEq] at e5
    exact e5
  obtain ⟨x1, x2, x3, x4⟩ := ex
  obtain ⟨vm', X', stp⟩ := Xs.thenCaughtThrough a (g := F0 m pc lsA st) rfl (Steps.refl _) h1 (by rw [h2]; rfl) (by obtain ⟨k9, h9, -⟩ := Vm.findClass_spec hcl; exact ⟨k9, h9⟩) pre' x suf2 (by rw [e1, e4])
    (fun z hz => by
      obtain ⟨hz0, j, hj, hje, hl1⟩ := hpre _ (by rw [← e2]; exact List.mem_map.mpr ⟨z, hz, rfl⟩)
      obtain ⟨c6, hc6, hcl6⟩ := Cond.classLink_spec X.1.1.2.2.2.2.1 (hts _ hl1) e.platform hpl
      obtain ⟨a8, b8, g1, g2, g3⟩ := X.1.2.1.2.2 ec j he hj (Ne.symm hje)
      cases Option.some.inj (g1.symm.trans hcl)
      cases Option.some.inj (g2.symm.trans hc6)
      exact Or.inr ⟨hz0, _, hcl6, g3⟩) (by simp [covers, x1, x2, hp1, hp2]) (Or.inr ⟨by rw [x4]; exact h0, c4, by rw [x4]; exact hcl5, hasg⟩)
  rw [x3] at stp
  obtain ⟨t, a1, b1⟩ := kk p l e R s m args below meth c A T.heap locs k n lsA X (T.setVm vm') rfl X'
  exact ⟨t, stp.trans a1, b1⟩
/-- behind the step that invokes -/
theorem x_behind {M' : xM} {d' : Nat} {ax : List xV} {r1 : xRes} {p : Program} {l : Launch} {e : Env} {R : Room} {s : State} {m : MethodId} {args : Array Value} {below : List Frame} {meth : Method} {c : Code} {A : Nat → Prop} {T : State} {locs : List Loc} {k n : Nat} {lsA : Array Slot} {vm₁ : Vm} {ig : Instr} {mk : MethodId} {g : JFrame}
    (X : xX M D (d' + 1) S0 ls S p l R s m args meth c A T.heap locs k n lsA) (hM : xMet l M' D d' ax S r1) (X₁ : Stand p l e R s m args below meth c (T.setVm vm₁) locs k n)
    (hstep : ∀ target, (∀ acts, Steps p.tables e below (doInvoke e ((T.setVm vm₁).setTop (F0 m pc lsA st)) acts mk (ax.map xval).toArray).1 target) → Steps p.tables e below (T.setTop g) target)
    (hdg : decode M.2.1 pc = .ok (ig, 3)) (hn : s.methodNamed? M'.1 = some mk) (hcode : xcode M' ∈ xT) (hini : Cond.initialized M'.1.cls ∈ xT) (hst : (st.map fun v => v.category).sum ≤ 8) (hL : M'.2.2.1 + 19 ≤ xL)
    (kk : xAfter M D (d' + 1) S0 r pc ls st r1) : ∃ t, Steps p.tables e below (T.setTop g) t ∧ xQ D S0 r below s A t := by
  have hlv := X.2.2.2.2.2.2.2
  have hsize : lsA.size = c.maxLocals := hlv.1.trans X.1.1.2.2.1.symm
  have hfr : d' + 1 ≤ R.frames := X.1.2.2.2.2.1
  have hlo : xL * (d' + 1) ≤ R.locals := X.1.2.2.2.2.2.1
  have c1 := X.1.2.2.2.2.2.2.1
  have c2 := X.1.2.2.2.2.2.2.2.1
  have e0 := X.2.2.2.2.1
  have e1 : S.2.2.2.1 = S0.2.2.2.1 := by rw [e0]
  have e2 : S.2.2.2.2 = S0.2.2.2.2 := by rw [e0]
  have e3 := X.2.2.2.2.2.1
  have e4 := X.2.2.2.2.2.2.1
  have e5 := X.2.1.2.2
  have hAA : ∀ q, xA S q → A q := fun q hq => by
    rcases hq with hq | hq
    · exact X.2.2.2.1 q hq
    · refine X.1.2.2.2.1 q (Nat.le_trans X.2.2.1.1 ?_)
      rw [X.2.1.1]; exact hq
  have hZ : xZ (xA S) (T.setVm vm₁) (T.setVm vm₁).heap := ((X.1.2.2.2.2.2.2.2.2.2.2.kept (H1 := T.heap) X.2.2.1.2.1).narrow hAA).moved X₁.warmed.alike
  obtain ⟨o, t, hs, hend, hE⟩ := x_enter X₁ hM (g := F0 m pc lsA st) rfl hsize (by rw [X.1.1.2.1]; exact hdg) hn X.1.1.2.2.2.2.2.2.1 hcode hini hfr (by
    have h0 : 2 * (F0 m pc lsA st).monitorRoom + (st.map fun v => v.category).sum ≤ 8 := lv_room (rest := st) hst
    show 2 * (F0 m pc lsA st).monitorRoom + (st.map fun v => v.category).sum + (M'.2.2.1 + 11) + xL * d' ≤ R.locals
    rw [Nat.mul_succ] at hlo
    omega) (by omega) (by omega) X.2.1 X.1.2.1 X.1.2.2.2.2.2.2.2.2.2.1 hZ
  obtain ⟨ho, hR1, hW1, ⟨L, k1, n1, hsame, hk1, hn1, hLA⟩, hdom, hF, hlim⟩ := hE
  have hsz : T.heap.size ≤ t.heap.size := hF.1
  have hS1 : va_S A s.heap t.heap (locs ++ L) := by
    refine ⟨Nat.le_trans X.2.2.1.1 hsz, fun q h1 h2 => ?_, fun y hy => ?_⟩
    · exact (hF.2 q (Nat.lt_of_lt_of_le h1 X.2.2.1.1) (fun h => h2 (hAA q h))).trans (X.2.2.1.2.1 q h1 h2)
    · rcases List.mem_append.mp hy with h | h
      · exact X.2.2.1.2.2 y h
      · exact hAA _ (hLA y h)
  unfold xAfter at kk
  cases hr : r1.1 with
  | inl v =>
    rw [hr] at ho kk
    have kk : V M D (d' + 1) S0 r (pc + 3) ls (v.toList ++ st) r1.2 := kk
    obtain rfl : o = .returned v := ho
    obtain ⟨T', X', hW', hsm, ht⟩ := X₁.outOf (g := F0 m pc lsA st) rfl (by rw [X.1.1.2.1]; exact hdg) hend hW1 hsame
    have hh : t.heap = T'.heap := by rw [ht]; rfl
    rw [hh] at hR1 hS1
    obtain ⟨t2, a1, b1⟩ := kk p l e R s m args below meth c A T'.heap (locs ++ L) (k + k1) (n + n1) lsA ⟨X.1, hR1, hS1, fun q hq => hAA q (hdom q hq), hlim.trans e0, by omega, by omega, hlv⟩ T' rfl X'
    refine ⟨t2, hstep _ (fun acts => ?_), b1⟩
    rw [doInvoke_state]
    refine hs.trans ?_
    rw [ht]
    exact a1
  | inr ec =>
    rw [hr] at ho kk
    have kk : xThrown M D (d' + 1) S0 r pc ls ec r1.2 := kk
    obtain ⟨a, cell, rfl, hc1, hc2, hc3⟩ := ho
    obtain ⟨T', X', hW', hsm, ht⟩ := X₁.outOfThrown (g := F0 m pc lsA st) rfl hend hW1 hsame
    have hh : t.heap = T'.heap := by rw [ht]; rfl
    have hv : t.vm = T'.vm := by rw [ht]; rfl
    rw [hh] at hR1 hS1 hc1
    rw [hv] at hc3
    have X2 : xX M D (d' + 1) S0 ls r1.2 p l R s m args meth c A T'.heap (locs ++ L) (k + k1) (n + n1) lsA := ⟨X.1, hR1, hS1, fun q hq => hAA q (hdom q hq), hlim.trans e0, by omega, by omega, hlv⟩
    have fin : ∃ t2, Steps p.tables e below ((T'.setTop (F0 m pc lsA st)).pushFrame (.throwing a)) t2 ∧ xQ D S0 r below s A t2 := by
      unfold xThrown at kk
      split at kk
      · rename_i hnil
        rw [kk]
        exact x_leave X2 X' hnil hc1 hc2 hc3
      · obtain ⟨hpc, hh1, hh2⟩ := kk
        exact x_caught X2 X' hh1 hc1 hc2 hc3 (hh2 a)
    obtain ⟨t2, a1, b1⟩ := fin
    refine ⟨t2, hstep _ (fun acts => ?_), b1⟩
    rw [doInvoke_state]
    refine hs.trans ?_
    rw [ht]
    exact a1
theorem x_callS {M' : xM} {d' index : Nat} {ax : List xV} {r1 : xRes} {host : Option String} (hM : ∀ l, xMet l M' D d' ax S r1) (hstk : stk = (ax.map xval).reverse ++ st) (hd : decode M.2.1 pc = .ok (.invokestatic index, 3)) (hw : xml M.1.cls index M'.1 host ∈ xT) (hstat : Cond.static M'.1 ∈ xT) (hini : Cond.initialized M'.1.cls ∈ xT) (hcode : xcode M' ∈ xT) (hy : M'.1.cls ≠ "java/lang/invoke/MethodHandle" ∧ M'.1.cls ≠ "java/lang/invoke/VarHandle") (hn : (parseMethodDescriptor M'.1.desc).map (fun q => q.parameters.length) = some ax.length) (hst : (st.map fun v => v.category).sum ≤ 8) (hL : M'.2.2.1 + 19 ≤ xL) (kk : xAfter M D (d' + 1) S0 r pc ls st r1) : V M D (d' + 1) S0 r pc ls stk S := by
  intro p l e R s m args below meth c A H locs k n lsA X T hT Xs
  subst hT
  have hts := X.1.1.2.2.2.2.2.2.1
  obtain ⟨mk, hnamed⟩ := xcode_named (hts _ hcode)
  obtain ⟨methM, cM, hmethM, -, -, -, -, -, -, hsigM⟩ := xcode_spec hnamed (hts _ hcode)
  have hstatic : methM.isStatic = true := Cond.static_spec hnamed hmethM (hts _ hstat)
  obtain ⟨kP, hkP, -⟩ := className_of_methodNamed hnamed
  have hinitP : kP.init = .initialized := Cond.initialized_spec (findClass_of_methodNamed hnamed) hkP (hts _ hini)
  have hlen : (ax.map xval).length = methM.sig.parameters.length := by
    rw [hsigM] at hn
    rw [List.length_map]
    exact (Option.some.inj hn).symm
  have hdc : decode c.code pc = .ok (.invokestatic index, 3) := by rw [X.1.1.2.1]; exact hd
  have h1 : ∃ vm₁, Stand p l e R s m args below meth c (T.setVm vm₁) locs k n ∧ ∀ target, (∀ acts, Steps p.tables e below (doInvoke e ((T.setVm vm₁).setTop (F0 m pc lsA st)) acts mk (ax.map xval).toArray).1 target) → Steps p.tables e below (T.setTop (F0 m pc lsA stk)) target := by
    cases host with
    | none => exact Xs.invokestatic X.1.1.1 X.1.1.2.2.2.2.1 (hts _ hw) hnamed hmethM hstatic hkP hinitP hy (g := F0 m pc lsA stk) rfl (argsL := ax.map xval) (rest := st) hlen hstk hdc
    | some h => exact Xs.invokestaticNest X.1.1.1 X.1.1.2.2.2.2.1 (hts _ hw) hnamed hmethM hstatic hkP hinitP hy (g := F0 m pc lsA stk) rfl (argsL := ax.map xval) (rest := st) hlen hstk hdc
  obtain ⟨vm₁, X₁, hstep₁⟩ := h1
  exact x_behind X (hM l) X₁ hstep₁ hd hnamed hcode hini hst hL kk
theorem x_callV {M' : xM} {d' index ci b : Nat} {C : String} {T0 : u_T} {N : Nat} {fs : List Value} {ax : List xV} {r1 : xRes} {host : Option String} (hM : ∀ l, xMet l M' D d' (.inr (.inr (some b)) :: ax) S r1) (hb : S.1 b = some (.inr (ci, fs))) (hc : xCl[ci]? = some (C, T0, N)) (hstk : stk = (ax.map xval).reverse ++ va_rf (some b) :: st) (hd : decode M.2.1 pc = .ok (.invokevirtual index, 3)) (hw : xml M.1.cls index M'.1 host ∈ xT) (hinst : Cond.instanceMethod M'.1 ∈ xT) (hsel : Cond.selects C M'.1 M'.1 ∈ xT) (hini : Cond.initialized M'.1.cls ∈ xT) (hcode : xcode M' ∈ xT) (hy : M'.1.cls ≠ "java/lang/invoke/MethodHandle" ∧ M'.1.cls ≠ "java/lang/invoke/VarHandle") (hn : (parseMethodDescriptor M'.1.desc).map (fun q => q.parameters.length) = some ax.length) (hst : (st.map fun v => v.category).sum ≤ 8) (hL : M'.2.2.1 + 19 ≤ xL) (kk : xAfter M D (d' + 1) S0 r pc ls st r1) : V M D (d' + 1) S0 r pc ls stk S := by
  intro p l e R s m args below meth c A H locs k n lsA X T hT Xs
  subst hT
  have hts := X.1.1.2.2.2.2.2.2.1
  obtain ⟨mk, methM, hnamed, hmethM, hstM, habM⟩ := Cond.instanceMethod_spec (hts _ hinst)
  obtain ⟨methM', cM, hmethM', -, -, -, -, -, -, hsigM⟩ := xcode_spec hnamed (hts _ hcode)
  cases hmethM.symm.trans hmethM'
  obtain ⟨r', hr', cellB, g1, g2, g3, -⟩ := X.2.1.2.1 b _ hb
  have hcls : s.vm.findClass C = some cellB.cls := by rw [g2]; exact (X.1.2.1.1.1 ci _ hc).2.1
  obtain ⟨c2, r2, m2, q1, q2, q3, q4, kP, hkP, hkPi⟩ := Cond.selects_spec (hts _ hsel)
  cases hcls.symm.trans q1
  cases (State.methodFound?_of_named hnamed hy).symm.trans q2
  cases hnamed.symm.trans q3
  have hselP : selectMethod e.platform s.vm cellB.cls mk = .method mk := by rw [Launch.admits_selectMethod Xs.admits]; exact q4
  have hlen : (ax.map xval).length = methM.sig.parameters.length := by
    rw [hsigM] at hn
    rw [List.length_map]
    exact (Option.some.inj hn).symm
  have hdc : decode c.code pc = .ok (.invokevirtual index, 3) := by rw [X.1.1.2.1]; exact hd
  have h1 : ∃ vm₁, Stand p l e R s m args below meth c (T.setVm vm₁) locs k n ∧ ∀ target, (∀ acts, Steps p.tables e below (doInvoke e ((T.setVm vm₁).setTop (F0 m pc lsA st)) acts mk ((.inr (.inr (some b)) :: ax).map xval).toArray).1 target) → Steps p.tables e below (T.setTop (F0 m pc lsA stk)) target := by
    cases host with
    | none => exact Xs.invokevirtual X.1.1.1 X.1.1.2.2.2.2.1 (hts _ hw) hnamed hmethM hstM hkP hkPi hy (a := b) (cell := cellB) g1 (fun z h => by rw [g3] at h; cases h) hselP hmethM habM hkP hkPi (g := F0 m pc lsA stk) rfl (argsL := ax.map xval) (rest := st) hlen hstk hdc
    | some h => exact Xs.invokevirtualNest X.1.1.1 X.1.1.2.2.2.2.1 (hts _ hw) hnamed hmethM hstM hkP hkPi hy (a := b) (cell := cellB) g1 (fun z h => by rw [g3] at h; cases h) hselP hmethM habM hkP hkPi (g := F0 m pc lsA stk) rfl (argsL := ax.map xval) (rest := st) hlen hstk hdc
  obtain ⟨vm₁, X₁, hstep₁⟩ := h1
  exact x_behind X (hM l) X₁ hstep₁ hd hnamed hcode hini hst hL kk
theorem x_callI {M' : xM} {d' index b : Nat} {bytes : ByteArray} {maxL : Nat} {ax : List xV} {r1 : xRes} {host : Option String} (hM : ∀ l, xMet l M' D d' (.inr (.inr (some b)) :: ax) S r1) (hM0 : xcode M' = .code M'.1 bytes maxL none) (hname : M'.1.name = "<init>") (hstk : stk = (ax.map xval).reverse ++ va_rf (some b) :: st) (hd : decode M.2.1 pc = .ok (.invokespecial index, 3)) (hw : xml M.1.cls index M'.1 host ∈ xT) (hinst : Cond.instanceMethod M'.1 ∈ xT) (hini : Cond.initialized M'.1.cls ∈ xT) (hcode : xcode M' ∈ xT) (hy : M'.1.cls ≠ "java/lang/invoke/MethodHandle" ∧ M'.1.cls ≠ "java/lang/invoke/VarHandle") (hn : (parseMethodDescriptor M'.1.desc).map (fun q => q.parameters.length) = some ax.length) (hst : (st.map fun v => v.category).sum ≤ 8) (hL : M'.2.2.1 + 19 ≤ xL) (kk : xAfter M D (d' + 1) S0 r pc ls st r1) : V M D (d' + 1) S0 r pc ls stk S := by
  intro p l e R s m args below meth c A H locs k n lsA X T hT Xs
  subst hT
  have hts := X.1.1.2.2.2.2.2.2.1
  have hcd := hts _ hcode
  rw [hM0] at hcd
  have hpl : e.platform.magicAccessors = ({} : Platform).magicAccessors := by rw [Xs.admits.platform]
  have hlen : ∀ sig, parseMethodDescriptor M'.1.desc = some sig → (ax.map xval).length = sig.parameters.length := fun sig h => by
    rw [h] at hn
    rw [List.length_map]
    exact (Option.some.inj hn).symm
  have hdc : decode c.code pc = .ok (.invokespecial index, 3) := by rw [X.1.1.2.1]; exact hd
  have h1 : ∃ mk vm₁, s.methodNamed? M'.1 = some mk ∧ Stand p l e R s m args below meth c (T.setVm vm₁) locs k n ∧ ∀ target, (∀ acts, Steps p.tables e below (doInvoke e ((T.setVm vm₁).setTop (F0 m pc lsA st)) acts mk ((.inr (.inr (some b)) :: ax).map xval).toArray).1 target) → Steps p.tables e below (T.setTop (F0 m pc lsA stk)) target := by
    cases host with
    | none =>
      obtain ⟨mk, methM, cM, kP, vm₁, hnamed, -, -, -, -, -, -, -, hW₁, hstep₁⟩ := Steps.initColdArgs (e := e) Xs.here X.1.1.1 Xs.warmed hpl X.1.1.2.2.2.2.1 hname hy (hts _ hw) (hts _ hinst) hcd (f := F0 m pc lsA stk) rfl (a := b) (rest := st) hlen hstk hdc
      exact ⟨mk, vm₁, hnamed, Xs.noted hW₁, hstep₁⟩
    | some h =>
      obtain ⟨mk, methM, cM, kP, vm₁, hnamed, -, -, -, -, -, -, -, hW₁, hstep₁⟩ := Steps.initColdArgsNest (e := e) Xs.here X.1.1.1 Xs.warmed hpl X.1.1.2.2.2.2.1 hname hy (hts _ hw) (hts _ hinst) hcd (f := F0 m pc lsA stk) rfl (a := b) (rest := st) hlen hstk hdc
      exact ⟨mk, vm₁, hnamed, Xs.noted hW₁, hstep₁⟩
  obtain ⟨mk, vm₁, hnamed, X₁, hstep₁⟩ := h1
  exact x_behind X (hM l) X₁ hstep₁ hd hnamed hcode hini hst hL kk
theorem x_cats (st : List Value) (h : st.length ≤ 4) : (st.map fun v => v.category).sum ≤ 8 := by
  have key : ∀ st : List Value, (st.map fun v => v.category).sum ≤ 2 * st.length := by
    intro st
    induction st with
    | nil => simp
    | cons v t ih =>
      have hv : v.category ≤ 2 := by cases v <;> simp [Value.category]
      simp only [List.map_cons, List.sum_cons, List.length_cons]
      omega
  have := key st
  omega
theorem x_vkR {own text : String} {k cur : Nat} {args : Array Value} {s : State} (hcur : s.vm.findClass own = some cur) (h : (Cond.stringRef own k text).before args s = true) : ∃ a, vk_R own k text a s := by
  obtain ⟨_, _, _, a, -, -, -, -, -, he⟩ := Cond.stringRef_spec hcur h
  exact ⟨a, vk_R.of h he⟩
/-- 'throw new E("text")' -/
def xthrow {α : Type} (d e : Nat) (S : xS) : Option ((α ⊕ Nat) × xS) := if 8 ≤ d ∧ S.2.1 + 1 ≤ S.2.2.2.1 ∧ S.2.2.1 + 6 ≤ S.2.2.2.2 then some (.inr e, xskip S 6) else none
set_option maxHeartbeats 1000000 in
theorem x_throw0 {ec ik is ic : Nat} {cls text : String} (hE : xE ec = cls) (h8 : 8 ≤ d) (hlim : S.2.1 + 1 ≤ S.2.2.2.1 ∧ S.2.2.1 + 6 ≤ S.2.2.2.2) (hh : M.2.2.2.2 = []) (hcls : Bundle.fit cls = true)
    (hw1 : Cond.classLink M.1.cls ik cls ∈ xT) (hw2 : Cond.initialized cls ∈ xT) (hw3 : Cond.stringRef M.1.cls is text ∈ xT) (hw4 : ∀ w ∈ vx_atS M.1.cls ic cls ["java/lang/RuntimeException", "java/lang/Exception"], w ∈ xT)
    (d0 : decode M.2.1 pc = .ok (.new ik, 3)) (d3 : decode M.2.1 (pc + 3) = .ok (.dup, 1)) (d4 : decode M.2.1 (pc + 4) = .ok (.ldc is, 2)) (d6 : decode M.2.1 (pc + 6) = .ok (.invokespecial ic, 3)) (d9 : decode M.2.1 (pc + 9) = .ok (.athrow, 1)) (hst : st.length ≤ 4) :
    V M D (d + 1) S0 (.inr ec, xskip S 6) pc ls st S := by
  intro p l e R s m args below meth c A H locs k n lsA X T hT Xs
  subst hT
  have hts := X.1.1.2.2.2.2.2.2.1
  have hlocks : meth.locks = false := X.1.1.2.2.2.2.2.2.2.1
  have hout : ∀ x ∈ c.exceptionTable.toList, covers x (pc + 9) = false := by
    have h := X.1.1.2.2.2.2.2.2.2.2
    rw [hh] at h
    rw [List.map_eq_nil_iff.mp h]
    exact fun x hx => by cases hx
  have hexec := X.1.1.1
  have hb := X.1.1.2.1
  have hown := X.1.1.2.2.2.2.1
  have hfr : d + 1 ≤ R.frames := X.1.2.2.2.2.1
  have hlo : xL * (d + 1) ≤ R.locals := X.1.2.2.2.2.2.1
  have hf := x_fit X hlim.1 hlim.2
  have hstc := x_cats st hst
  obtain ⟨sa, hstr⟩ := x_vkR hown (hts _ hw3)
  have htr : e.platform.stackTraces = false := (show e.platform.stackTraces = l.stackTraces by rw [Xs.admits.platform]).trans X.1.2.2.2.2.2.2.2.2.2.1
  have Y := vx_rebase Xs (R' := { frames := R.frames, locals := R.locals, cells := 1, slots := 6 }) (Nat.le_refl _) (Nat.le_refl _) hf.1 hf.2
  obtain ⟨s', hA⟩ : ∃ z, z = (T.setVm s.vm).setFrames (.invoking m args :: below) := ⟨_, rfl⟩
  rw [← hA] at Y
  have hvm : s'.vm = s.vm := by rw [hA]; rfl
  have hhp : s'.heap = T.heap := by rw [hA]; rfl
  have hW0 : s.WarmedH s'.vm := by rw [hvm]; exact State.WarmedH.refl s
  have hw : ∀ w ∈ xT, w.before args s' = true := fun w h => x_word hW0 (xT_good h) (hts w h)
  have hZ' : xZ A s' s'.heap := by
    rw [hhp]
    exact (X.1.2.2.2.2.2.2.2.2.2.2.kept (H1 := T.heap) X.2.2.1.2.1).moved hW0.alike
  have h : ∀ w ∈ Bundle.ownAtoms M.1.cls ic cls ["java/lang/RuntimeException", "java/lang/Exception"], w.before args s' = true := vx_own (fun w hw9 => hw w (hw4 w hw9)) (vx_isRefq hZ'.1.1) (vx_isRefq hZ'.2.1) hZ'.1.2.word hZ'.2.2.word
  have hown' : s'.vm.findClass M.1.cls = some m.cls := by rw [hvm]; exact hown
  have hins : (Cond.instantiable cls 6).before args s' = true := h _ (by simp [Bundle.ownAtoms])
  obtain ⟨vm₁, cX, kX, hfX, hkX, -, -, X₁, st1⟩ := Y.newCold hexec (own := M.1.cls) (C := cls) (index := ik) (n := 6) hown' (hw _ hw1) hins (hw _ hw2)
    (g := F0 m pc lsA st) rfl (by rw [hb]; exact d0) (Nat.le_refl _) (Nat.le_refl _)
  generalize hT1 : (T.setVm vm₁).pushCell { cls := cX, slots := kX.instanceTypes.map defaultValue, vm := .none } = T1 at X₁ st1
  have hcat : (Value.ref T.heap.size).category = 1 := rfl
  have hcellA : T1.heap[T.heap.size]? = some (freshCell cX kX) := by rw [← hT1]; exact State.heap_pushCell_size _ _
  have d3' : decode c.code (pc + 3) = .ok (.dup, 1) := by rw [hb]; exact d3
  have d4' : decode c.code (pc + 4) = .ok (.ldc is, 2) := by rw [hb]; exact d4
  have hstr' : vk_R M.1.cls is text sa s' := vk_R.warm hW0 hstr
  have hx64 : xL = 64 := rfl
  obtain ⟨U, hsteps, hrun, hend, hW, hsame, ce, hce, hO⟩ := X₁.ctorThrowS hexec htr (own := M.1.cls) (cls := cls) (names := ["java/lang/RuntimeException", "java/lang/Exception"]) (ic := ic) hown' hcls (by decide) h (fun x hx => nomatch hx) hfX hkX hcellA (by rw [hhp]; exact Nat.le_refl _) (msg := .ref sa) rfl
    (g := { method := m, pc := pc + 6, locals := lsA, stack := .ref sa :: .ref T.heap.size :: .ref T.heap.size :: st, locked := none }) rfl (X.2.2.2.2.2.2.2.1.trans X.1.1.2.2.1.symm) rfl rfl (rest := st) rfl
    (by rw [hb]; exact d6) (by rw [hb]; exact d9) hout (by simp; omega) (by
      have h0 : 2 * (F0 m pc lsA st).monitorRoom + (st.map fun v => v.category).sum ≤ 8 := lv_room (rest := st) hstc
      have h1 : xL * (d + 1) ≥ 64 * 9 := by rw [hx64]; omega
      simp only [List.map_cons, List.sum_cons, hcat, List.length_cons, List.length_nil]
      show 2 * 0 + _ + _ ≤ _
      have h2 : (st.map fun v => v.category).sum ≤ 8 := hstc
      omega) hlocks
  obtain ⟨f1, f2⟩ := vx_frame hsame
  rw [hhp] at f1 f2
  have hWs : s.WarmedH U.vm := State.WarmedH.trans hW0 hW
  have hcl : U.vm.findClass cls = some ce.cls := by
    have h9 := hO.cls
    rw [hvm] at h9
    rw [hWs.alike.findClass]
    exact h9
  have hall : s.sameButNew ({ U with vm := s.vm } : State) locs (k + 1) (n + 6) := by
    subst hA
    obtain ⟨e1, e2⟩ := hsame
    rw [State.setFrames_setFrames] at e1
    have h2 : (T.setVm s.vm).sameButNew ({ U with vm := s.vm } : State) [] (0 + 1) (0 + 6) := ⟨e1, e2⟩
    have h3 := Xs.same.trans h2
    rw [List.append_nil] at h3
    exact h3.mono (by omega) (by omega)
  have hsz : U.heap.size = T.heap.size + 1 := by
    have h1 : T.heap.size < U.heap.size := (Array.getElem?_eq_some_iff.mp hce).1
    have h2 : U.heap.size ≤ s'.heap.size + (0 + 1) := hsame.2.2.1
    rw [hhp] at h2
    omega
  have hfr2 : ∀ q : Nat, q < T.heap.size → U.heap[q]? = T.heap[q]? := fun q hq => f2 q hq (fun z hz => nomatch hz)
  refine ⟨U, ?_, .threw T.heap.size, hrun, hend, ⟨T.heap.size, ce, rfl, hce, hO.vm, by rw [hE]; exact hcl⟩, X.2.1.skip 6 hlim hsz hfr2, hWs, ⟨locs, k + 1, n + 6, hall, ?_, ?_, X.2.2.1.2.2⟩, X.2.2.2.1, ?_, X.2.2.2.2.1⟩
  · refine st1 _ ?_
    show Steps p.tables e below (T1.setTop { method := m, pc := pc + 3, locals := lsA, stack := .ref T.heap.size :: st, locked := none }) _
    jvm_step X₁.here [X₁.here.top, hexec, d3', Value.category]
    exact X₁.ldcString hexec (own := M.1.cls) (text := text) (index := is) (a := sa) hown' hstr'.1 hstr'.2
      (g := { method := m, pc := pc + 4, locals := lsA, stack := .ref T.heap.size :: .ref T.heap.size :: st, locked := none }) rfl d4' _ hsteps
  · show S0.2.1 + (k + 1) = S.2.1 + 1
    have := X.2.2.2.2.2.1
    omega
  · show S0.2.2.1 + (n + 6) = S.2.2.1 + 6
    have := X.2.2.2.2.2.2.1
    omega
  · refine ⟨by have := X.2.2.1.1; omega, fun q h1 h2 => ?_⟩
    have := X.2.2.1.1
    exact (hfr2 q (by omega)).trans (X.2.2.1.2.1 q h1 h2)
/-- Object's own constructor -/
theorem x_objInit {index : Nat} {x : Option Nat} (hx : x ≠ none) (hd : decode M.2.1 pc = .ok (.invokespecial index, 3)) (hw : Cond.methodLink M.1.cls index objectInit ∈ xT) (hinst : Cond.instanceMethod objectInit ∈ xT) (hcode : Cond.code objectInit ⟨#[0xb1]⟩ 1 none ∈ xT) (hst : st.length ≤ 4) (kk : V M D (d + 1) S0 r (pc + 3) ls st S) : V M D (d + 1) S0 r pc ls (va_rf x :: st) S := by
  have hst := x_cats st hst
  cases x with
  | none => exact absurd rfl hx
  | some a =>
    intro p l e R s m args below meth c A H locs k n lsA X
    have hts := X.1.1.2.2.2.2.2.2.1
    have hlo : xL * (d + 1) ≤ R.locals := X.1.2.2.2.2.2.1
    refine W.objInit X.1.1.1 X.1.1.2.1 X.1.1.2.2.2.2.1 (hts _ hw) (hts _ hinst) (hts _ hcode) rfl (X.2.2.2.2.2.2.2.1.trans X.1.1.2.2.1.symm) rfl hd (Nat.le_trans (Nat.le_add_left 1 d) X.1.2.2.2.2.1) ?_ (kk p l e R s m args below meth c A H locs k n lsA X)
    have h0 : 2 * (F0 m pc lsA st).monitorRoom + (st.map fun v => v.category).sum ≤ 8 := lv_room (rest := st) hst
    show 2 * (F0 m pc lsA st).monitorRoom + (st.map fun v => v.category).sum + 12 ≤ R.locals
    rw [Nat.mul_succ] at hlo
    have : xL = 64 := rfl
    omega
/-- what is known of a method that is called: static, by its receiver's class, a constructor -/
def xwS (M' : xM) (n : Nat) : Prop := Cond.static M'.1 ∈ xT ∧ Cond.initialized M'.1.cls ∈ xT ∧ xcode M' ∈ xT ∧ (M'.1.cls ≠ "java/lang/invoke/MethodHandle" ∧ M'.1.cls ≠ "java/lang/invoke/VarHandle") ∧ (parseMethodDescriptor M'.1.desc).map (fun q => q.parameters.length) = some n ∧ M'.2.2.1 + 19 ≤ xL
def xwV (M' : xM) (C : String) (n : Nat) : Prop := Cond.instanceMethod M'.1 ∈ xT ∧ Cond.selects C M'.1 M'.1 ∈ xT ∧ Cond.initialized M'.1.cls ∈ xT ∧ xcode M' ∈ xT ∧ (M'.1.cls ≠ "java/lang/invoke/MethodHandle" ∧ M'.1.cls ≠ "java/lang/invoke/VarHandle") ∧ (parseMethodDescriptor M'.1.desc).map (fun q => q.parameters.length) = some n ∧ M'.2.2.1 + 19 ≤ xL
def xwI (M' : xM) (n : Nat) : Prop := Cond.instanceMethod M'.1 ∈ xT ∧ M'.1.name = "<init>" ∧ (∃ (b : ByteArray) (k : Nat), xcode M' = .code M'.1 b k none) ∧ Cond.initialized M'.1.cls ∈ xT ∧ xcode M' ∈ xT ∧ (M'.1.cls ≠ "java/lang/invoke/MethodHandle" ∧ M'.1.cls ≠ "java/lang/invoke/VarHandle") ∧ (parseMethodDescriptor M'.1.desc).map (fun q => q.parameters.length) = some n ∧ M'.2.2.1 + 19 ≤ xL
theorem x_callS' {ζ α : Type} {Fc : Option ζ} {F : ζ → Option α} {z : α} {cv : ζ → xRes} {M' : xM} {d' index n : Nat} {ax : List xV} {host : Option String} (h : Fc.bind F = some z) (hM : ∀ q, Fc = some q → ∀ l, xMet l M' D d' ax S (cv q)) (hstk : stk = (ax.map xval).reverse ++ st) (hd : decode M.2.1 pc = .ok (.invokestatic index, 3)) (hw : xml M.1.cls index M'.1 host ∈ xT) (hc : xwS M' n) (hax : ax.length = n) (hst : st.length ≤ 4) (kk : ∀ q, F q = some z → xAfter M D (d' + 1) S0 r pc ls st (cv q)) : V M D (d' + 1) S0 r pc ls stk S := by
  obtain ⟨q, h1, h2⟩ := Option.bind_eq_some_iff.mp h
  obtain ⟨c1, c2, c3, c4, c5, c6⟩ := hc
  exact x_callS (hM q h1) hstk hd hw c1 c2 c3 c4 (by rw [hax]; exact c5) (x_cats st hst) c6 (kk q h2)
theorem x_callV' {ζ α : Type} {Fc : Option ζ} {F : ζ → Option α} {z : α} {cv : ζ → xRes} {M' : xM} {d' index ci n : Nat} {x : Option Nat} {C : String} {T0 : u_T} {N : Nat} {ax : List xV} {host : Option String} (h : (xobj S x ci).bind (fun _ => Fc.bind F) = some z) (hM : ∀ q, Fc = some q → ∀ l, xMet l M' D d' (.inr (.inr x) :: ax) S (cv q)) (hci : xCl[ci]? = some (C, T0, N)) (hstk : stk = (ax.map xval).reverse ++ va_rf x :: st) (hd : decode M.2.1 pc = .ok (.invokevirtual index, 3)) (hw : xml M.1.cls index M'.1 host ∈ xT) (hc : xwV M' C n) (hax : ax.length = n) (hst : st.length ≤ 4) (kk : ∀ q, F q = some z → xAfter M D (d' + 1) S0 r pc ls st (cv q)) : V M D (d' + 1) S0 r pc ls stk S := by
  obtain ⟨o, h0, h⟩ := Option.bind_eq_some_iff.mp h
  obtain ⟨q, h1, h2⟩ := Option.bind_eq_some_iff.mp h
  obtain ⟨rfl, h5⟩ := xobj_some h0
  obtain ⟨c1, c1', c2, c3, c4, c5, c6⟩ := hc
  exact x_callV (hM q h1) h5 hci hstk hd hw c1 c1' c2 c3 c4 (by rw [hax]; exact c5) (x_cats st hst) c6 (kk q h2)
theorem x_callI' {ζ α : Type} {Fc : Option ζ} {F : ζ → Option α} {z : α} {cv : ζ → xRes} {M' : xM} {d' index b n : Nat} {ax : List xV} {host : Option String} (h : Fc.bind F = some z) (hM : ∀ q, Fc = some q → ∀ l, xMet l M' D d' (.inr (.inr (some b)) :: ax) S (cv q)) (hstk : stk = (ax.map xval).reverse ++ va_rf (some b) :: st) (hd : decode M.2.1 pc = .ok (.invokespecial index, 3)) (hw : xml M.1.cls index M'.1 host ∈ xT) (hc : xwI M' n) (hax : ax.length = n) (hst : st.length ≤ 4) (kk : ∀ q, F q = some z → xAfter M D (d' + 1) S0 r pc ls st (cv q)) : V M D (d' + 1) S0 r pc ls stk S := by
  obtain ⟨q, h1, h2⟩ := Option.bind_eq_some_iff.mp h
  obtain ⟨c1, cn, ⟨b', k', cb⟩, c2, c3, c4, c5, c6⟩ := hc
  exact x_callI (hM q h1) cb cn hstk hd hw c1 c2 c3 c4 (by rw [hax]; exact c5) (x_cats st hst) c6 (kk q h2)
/-! ends as numbers, references, nothing; of a method that may throw -/
abbrev cvI (q : Int32 × xS) : xRes := (.inl (some (.int q.1)), q.2)
abbrev cvR (q : Option Nat × xS) : xRes := (.inl (some (va_rf q.1)), q.2)
abbrev cvV (q : Unit × xS) : xRes := (.inl none, q.2)
def cvT (q : (Int32 ⊕ Nat) × xS) : xRes := match q.1 with
  | .inl v => (.inl (some (.int v)), q.2)
  | .inr e => (.inr e, q.2)
def cvU (q : (Unit ⊕ Nat) × xS) : xRes := match q.1 with
  | .inl _ => (.inl none, q.2)
  | .inr e => (.inr e, q.2)
def xtry {α β : Type} (o : α ⊕ Nat) (a : α → β) (b : Nat → β) : β := match o with
  | .inl v => a v
  | .inr e => b e
theorem x_tryI {α : Type} {q : (Int32 ⊕ Nat) × xS} {Fa : Int32 → Option α} {Fb : Nat → Option α} {z : α} (h : xtry q.1 Fa Fb = some z) (k1 : ∀ v, Fa v = some z → V M D d S0 r (pc + 3) ls (.int v :: st) q.2) (k2 : ∀ e, Fb e = some z → xThrown M D d S0 r pc ls e q.2) : xAfter M D d S0 r pc ls st (cvT q) := by
  obtain ⟨o, S1⟩ := q
  cases o with
  | inl v => exact k1 v h
  | inr e => exact k2 e h
theorem x_tryV {α : Type} {q : (Unit ⊕ Nat) × xS} {Fa : Unit → Option α} {Fb : Nat → Option α} {z : α} (h : xtry q.1 Fa Fb = some z) (k1 : ∀ v, Fa v = some z → V M D d S0 r (pc + 3) ls st q.2) (k2 : ∀ e, Fb e = some z → xThrown M D d S0 r pc ls e q.2) : xAfter M D d S0 r pc ls st (cvU q) := by
  obtain ⟨o, S1⟩ := q
  cases o with
  | inl v => exact k1 v h
  | inr e => exact k2 e h
theorem x_zretI {v : Int32} {z : Int32 × xS} (h : (if v = 0 ∨ v = 1 then some (v, S) else none) = some z) (hr : M.2.2.2.1 = some .boolean) (hd : decode M.2.1 pc = .ok (.ireturn, 1)) : V M D d S0 (cvI z) pc ls [.int v] S := by
  split at h
  case isFalse => cases h
  rename_i hv
  cases h
  exact x_zret hr hv hd
end XCALLS
