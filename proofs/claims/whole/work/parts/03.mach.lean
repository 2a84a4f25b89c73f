/-! THE STATE OF A RUN: the cells that are known, the heap's size, the slots made so far, the most cells, the most slots. An object is its class's number and its fields, an array its type's number, its length and what it holds. -/
abbrev xO : Type := (Nat × vp_A) ⊕ (Nat × List Value)
abbrev xS : Type := (Nat → Option xO) × Nat × Nat × Nat × Nat
abbrev xD : Type := va_G × (Nat → ClassId) × Nat × Nat × (Nat → Int32)
/-- a method: its name, its bytes, its locals, its answer's type, its handlers -/
abbrev xM : Type := MethodName × ByteArray × Nat × Option FieldType × List (Nat × Nat × Nat × Nat)
/-- a value: an int, a long, a reference -/
abbrev xV : Type := Int32 ⊕ Int64 ⊕ Option Nat
def xval : xV → Value
  | .inl x => .int x
  | .inr (.inl x) => .long x
  | .inr (.inr x) => va_rf x
def xtwo : xV → Bool
  | .inr (.inl _) => true
  | _ => false
theorem xval_cat (v : xV) : ((xval v).category == 2) = xtwo v := by
  match v with
  | .inl x => rfl
  | .inr (.inl x) => rfl
  | .inr (.inr none) => rfl
  | .inr (.inr (some a)) => rfl
def xlv (ls : List (Nat × xV)) : List (Nat × Value) := ls.map fun q => (q.1, xval q.2)
theorem xlv_at {ls : List (Nat × xV)} {j i : Nat} {v : xV} (h : ls[j]? = some (i, v)) : (xlv ls)[j]? = some (i, xval v) := by
  rw [xlv, List.getElem?_map, h]
  rfl
def xst1 (ls : List (Nat × xV)) (i : Nat) (v : xV) : List (Nat × xV) := (i, v) :: ls.filter (fun q => !(q.1 == i) && !(q.1 + 1 == i && xtwo q.2))
def xst2 (ls : List (Nat × xV)) (i : Nat) (v : xV) : List (Nat × xV) := (i, v) :: ls.filter (fun q => !(q.1 == i) && (!(q.1 == i + 1) && !(q.1 + 1 == i && xtwo q.2)))
theorem xlv_st1 (ls : List (Nat × xV)) (i : Nat) (v : xV) : (i, xval v) :: (xlv ls).filter (fun q => !(q.1 == i) && !(q.1 + 1 == i && q.2.category == 2)) = xlv (xst1 ls i v) := by
  simp only [xlv, xst1, List.map_cons, List.filter_map, Function.comp_def, xval_cat]
theorem xlv_st2 (ls : List (Nat × xV)) (i : Nat) (v : xV) : (i, xval v) :: (xlv ls).filter (fun q => !(q.1 == i) && (!(q.1 == i + 1) && !(q.1 + 1 == i && q.2.category == 2))) = xlv (xst2 ls i v) := by
  simp only [xlv, xst2, List.map_cons, List.filter_map, Function.comp_def, xval_cat]
def xargs : Nat → List xV → List (Nat × xV)
  | _, [] => []
  | i, v :: vs => (i, v) :: xargs (if xtwo v = true then i + 2 else i + 1) vs
theorem xlv_args (vs : List xV) : ∀ i : Nat, lv_args i (vs.map xval) = xlv (xargs i vs) := by
  induction vs with
  | nil => intro i; rfl
  | cons v vs ih =>
    intro i
    have h : ((xval v).category = 2) = (xtwo v = true) := by rw [← xval_cat]; simp
    simp only [List.map_cons, lv_args, xargs, xlv, List.map_cons]
    rw [ih]
    simp only [h, xlv]
/-- an end: what is returned, or the number of the class that is thrown; and the state -/
abbrev xRes : Type := (Option Value ⊕ Nat) × xS
def x_at (D : xD) (a : Nat) (o : xO) (H : Heap) : Prop := match o with
  | .inl z => H[a]? = some (vp_cell (D.2.1 z.1) z.2)
  | .inr z => ∃ q : vw_C, xCl[z.1]? = some q ∧ t_OB a (D.1.1 z.1) q.2.2 (D.1.2 z.1) H (vp_V z.2)
theorem x_at.kept {D : xD} {a : Nat} {o : xO} {H H1 : Heap} (h : x_at D a o H) (hq : H1[a]? = H[a]?) : x_at D a o H1 := by
  cases o with
  | inl z => exact hq.trans h
  | inr z =>
    obtain ⟨q, h1, h2⟩ := h
    exact ⟨q, h1, h2.kept hq⟩
theorem x_at.lt {D : xD} {a : Nat} {o : xO} {H : Heap} (h : x_at D a o H) : a < H.size := by
  cases o with
  | inl z => exact (Array.getElem?_eq_some_iff.mp h).1
  | inr z =>
    obtain ⟨q, h1, cell, h2, -⟩ := h
    exact (Array.getElem?_eq_some_iff.mp h2).1
def xR (D : xD) (S : xS) (H : Heap) : Prop := H.size = S.2.1 ∧ (∀ (a : Nat) (o : xO), S.1 a = some o → x_at D a o H) ∧ S.2.1 ≤ S.2.2.2.1 ∧ S.2.2.1 ≤ S.2.2.2.2
def xset (S : xS) (a : Nat) (o : xO) : xS := (va_up S.1 a (some o), S.2)
def xpush (S : xS) (o : xO) (n : Nat) : xS := (va_up S.1 S.2.1 (some o), S.2.1 + 1, S.2.2.1 + n, S.2.2.2)
def xskip (S : xS) (n : Nat) : xS := (S.1, S.2.1 + 1, S.2.2.1 + n, S.2.2.2)
theorem xR.set {D : xD} {S : xS} {a : Nat} {o : xO} {H H1 : Heap} (h : xR D S H) (he : x_at D a o H1) (hz : H1.size = H.size) (oq : ∀ q : Nat, q ≠ a → H1[q]? = H[q]?) : xR D (xset S a o) H1 := by
  refine ⟨hz.trans h.1, fun q x hq => ?_, h.2.2⟩
  by_cases e : q = a
  · subst e
    rw [show (xset S q o).1 q = some o from va_up_self ..] at hq
    cases hq
    exact he
  · rw [show (xset S a o).1 q = S.1 q from va_up_ne _ _ e] at hq
    exact (h.2.1 q x hq).kept (oq q e)
theorem xR.push {D : xD} {S : xS} {o : xO} {H H1 : Heap} (n : Nat) (hlim : S.2.1 + 1 ≤ S.2.2.2.1 ∧ S.2.2.1 + n ≤ S.2.2.2.2) (h : xR D S H) (he : x_at D H.size o H1) (hz : H1.size = H.size + 1) (oq : ∀ q : Nat, q < H.size → H1[q]? = H[q]?) : xR D (xpush S o n) H1 := by
  refine ⟨hz.trans (by rw [h.1]; rfl), fun q x hq => ?_, hlim⟩
  by_cases e : q = S.2.1
  · subst e
    rw [show (xpush S o n).1 S.2.1 = some o from va_up_self ..] at hq
    cases hq
    rw [← h.1]
    exact he
  · rw [show (xpush S o n).1 q = S.1 q from va_up_ne _ _ e] at hq
    exact (h.2.1 q x hq).kept (oq q (h.2.1 q x hq).lt)
theorem xR.skip {D : xD} {S : xS} {H H1 : Heap} (n : Nat) (hlim : S.2.1 + 1 ≤ S.2.2.2.1 ∧ S.2.2.1 + n ≤ S.2.2.2.2) (h : xR D S H) (hz : H1.size = H.size + 1) (oq : ∀ q : Nat, q < H.size → H1[q]? = H[q]?) : xR D (xskip S n) H1 :=
  ⟨hz.trans (by rw [h.1]; rfl), fun q x hq => (h.2.1 q x hq).kept (oq q (h.2.1 q x hq).lt), hlim⟩
def xK (D : xD) (U : State) : Prop := va_K D.1 xCl [] U ∧ (∀ (i : Nat) (ty : FieldType), xAT[i]? = some ty → ArrOfT U (D.2.1 i) ty ∧ va_RA U (D.2.1 i) ty) ∧ ∀ i j : Nat, i < 3 → j < 3 → i ≠ j → va_Nc (xE i) (xE j) U
theorem xK.moved {D : xD} {u U : State} (hvm : u.vm.Alike U.vm) (h : xK D u) : xK D U := ⟨va_K.moved hvm h.1, fun i ty hi => ⟨arrOfT_moved hvm (h.2.1 i ty hi).1, (h.2.1 i ty hi).2.moved hvm⟩, fun i j hi hj hij => (h.2.2 i j hi hj hij).moved hvm⟩
/-- the two statics of Throwable that a throw reads -/
def xZ (A : Nat → Prop) (U : State) (H : Heap) : Prop := vx_Zq Bundle.tN "UNASSIGNED_STACK" Bundle.steD A U H ∧ vx_Zq Bundle.tN "SUPPRESSED_SENTINEL" Bundle.listD A U H
theorem xZ.moved {A : Nat → Prop} {u U : State} {H : Heap} (hvm : u.vm.Alike U.vm) (h : xZ A u H) : xZ A U H := ⟨vx_Zq.moved hvm h.1, vx_Zq.moved hvm h.2⟩
theorem xZ.kept {A : Nat → Prop} {U : State} {H H1 : Heap} (h : xZ A U H) (hq : ∀ a : Nat, a < H.size → ¬ A a → H1[a]? = H[a]?) : xZ A U H1 := ⟨h.1.kept hq, h.2.kept hq⟩
theorem xZ.narrow {A B : Nat → Prop} {U : State} {H : Heap} (h : xZ A U H) (hAB : ∀ q, B q → A q) : xZ B U H := ⟨h.1.narrow hAB, h.2.narrow hAB⟩
/-- words that stay true while the tables warm -/
def xGood : Cond → Bool
  | .methodLinkNest .. => true
  | .fieldLinkNest .. => true
  | .castable .. => true
  | .stringRef .. => true
  | .declares .. => true
  | .arrayOver (.object _) => true
  | w => goodWord w
theorem x_word {args a' : Array Value} {s U : State} (hW : s.WarmedH U.vm) {w : Cond} (hg : xGood w = true) (h : w.before args s = true) : w.before a' U = true := by
  by_cases ho : ∃ C, w = .arrayOver (.object C)
  · obtain ⟨C, rfl⟩ := ho
    exact va_AO.use (va_AO.moved hW.alike (va_AO.of h))
  cases w
  case declares a => exact va_Nw.use rfl (va_Nw.warmD hW (va_Nw.of rfl h))
  case arrayOver t =>
    cases t
    case object C => exact absurd ⟨C, rfl⟩ ho
    all_goals exact word_at hW (good_of_word hg) h
  case methodLinkNest a i x h' => exact va_Nw.use rfl (va_Nw.warmM hW (va_Nw.of rfl h))
  case fieldLinkNest a i b n dd h' => exact va_Nw.use rfl (va_Nw.warmF hW (va_Nw.of rfl h))
  case castable a b => exact va_Nw.use rfl (va_Nw.warmC hW (va_Nw.of rfl h))
  case stringRef a b c =>
    have h1 := Cond.stringRef_warmed hW h
    simp only [Cond.before, Cond.holds, Cond.value, State.names, State.poolOf?, State.resolvedAt?, State.vm_setVm] at h1 ⊢
    exact h1
  all_goals exact word_at hW (good_of_word hg) h
def xT : List Cond := lw_tbl.filter xGood
theorem xT_in {w : Cond} (h : w ∈ lw_tbl) (hg : xGood w = true) : w ∈ xT := List.mem_filter.mpr ⟨h, hg⟩
theorem xT_good {w : Cond} (h : w ∈ xT) : xGood w = true := (List.mem_filter.mp h).2
def xL : Nat := 64
def xA (S : xS) : Nat → Prop := fun q => S.1 q ≠ none ∨ S.2.1 ≤ q
/-- what a walk stands on -/
def xC (M : xM) (D : xD) (d : Nat) (S0 : xS) (p : Program) (l : Launch) (R : Room) (s : State) (m : MethodId) (args : Array Value) (meth : Method) (c : Code) (A : Nat → Prop) : Prop :=
  (p.tables.exec = Jvm.exec ∧ c.code = M.2.1 ∧ c.maxLocals = M.2.2.1 ∧ meth.sig.returnType = M.2.2.2.1 ∧ s.vm.findClass M.1.cls = some m.cls ∧ meth.name = M.1.name ∧ (∀ w ∈ xT, w.before args s = true) ∧ meth.locks = false ∧ c.exceptionTable.toList.map (fun h => (h.startPc, h.endPc, h.handlerPc, h.catchType)) = M.2.2.2.2) ∧
  (xK D s ∧ s.heap.size = S0.2.1 ∧ (∀ q : Nat, s.heap.size ≤ q → A q) ∧ d ≤ R.frames ∧ xL * d ≤ R.locals ∧ S0.2.2.2.1 ≤ S0.2.1 + R.cells ∧ S0.2.2.2.2 ≤ S0.2.2.1 + R.slots ∧ (M.1.name = "law" → va_X D.2.2.1 D.2.2.2.1 D.2.2.2.2 s s.heap ∧ D.2.2.1 < s.heap.size ∧ ¬ A D.2.2.1) ∧ l.stackTraces = false ∧ xZ A s s.heap)
def xX (M : xM) (D : xD) (d : Nat) (S0 : xS) (ls : List (Nat × xV)) (S : xS) (p : Program) (l : Launch) (R : Room) (s : State) (m : MethodId) (args : Array Value) (meth : Method) (c : Code) (A : Nat → Prop) (H : Heap) (locs : List Loc) (k n : Nat) (lsA : Array Slot) : Prop :=
  xC M D d S0 p l R s m args meth c A ∧ xR D S H ∧ va_S A s.heap H locs ∧ (∀ q : Nat, S.1 q ≠ none → A q) ∧ S.2.2.2 = S0.2.2.2 ∧ S0.2.1 + k = S.2.1 ∧ S0.2.2.1 + n = S.2.2.1 ∧ lv_has lsA M.2.2.1 (xlv ls)
def x_out (o' : Option Value ⊕ Nat) (o : Outcome) (t : State) : Prop := match o' with
  | .inl v => o = .returned v
  | .inr e => ∃ (a : Addr) (cell : Cell), o = .threw a ∧ t.heap[a]? = some cell ∧ cell.vm = .none ∧ t.vm.findClass (xE e) = some cell.cls
/-- the end of a method that began in S0 -/
def xEnd (D : xD) (S0 : xS) (r : xRes) (A : Nat → Prop) (s : State) (o : Outcome) (t : State) : Prop :=
  x_out r.1 o t ∧ xR D r.2 t.heap ∧ s.WarmedH t.vm ∧ (∃ (L : List Loc) (k n : Nat), s.sameButNew ({ t with vm := s.vm } : State) L k n ∧ S0.2.1 + k = r.2.2.1 ∧ S0.2.2.1 + n = r.2.2.2.1 ∧ ∀ q ∈ L, A q.base) ∧ (∀ q : Nat, r.2.1 q ≠ none → A q) ∧ va_F A s t ∧ r.2.2.2.2 = S0.2.2.2
def xQ (D : xD) (S0 : xS) (r : xRes) (below : List Frame) (s : State) (A : Nat → Prop) : State → Prop := fun t => ∃ o, t.status = .running ∧ Ended t below o ∧ xEnd D S0 r A s o t
/-- FROM HERE the method that began in S0 comes to the end r -/
def V (M : xM) (D : xD) (d : Nat) (S0 : xS) (r : xRes) (pc : Nat) (ls : List (Nat × xV)) (st : List Value) (S : xS) : Prop :=
  ∀ (p : Program) (l : Launch) (e : Env) (R : Room) (s : State) (m : MethodId) (args : Array Value) (below : List Frame) (meth : Method) (c : Code) (A : Nat → Prop) (H : Heap) (locs : List Loc) (k n : Nat) (lsA : Array Slot),
    xX M D d S0 ls S p l R s m args meth c A H locs k n lsA → W p l e R s m args below meth c H locs k n (xQ D S0 r below s A) (F0 m pc lsA st)
theorem W.mono {p : Program} {l : Launch} {e : Env} {R : Room} {s : State} {m : MethodId} {args : Array Value} {below : List Frame} {meth : Method} {c : Code} {H : Heap} {locs : List Loc} {k n : Nat} {Q Q' : State → Prop} {g : JFrame} (h : ∀ t, Q t → Q' t) (w : W p l e R s m args below meth c H locs k n Q g) : W p l e R s m args below meth c H locs k n Q' g := by
  intro T hT X
  obtain ⟨t, a, b⟩ := w T hT X
  exact ⟨t, a, h t b⟩

def xcase {α : Type} (x : Option Nat) (a : α) (f : Nat → α) : α := match x with
  | none => a
  | some q => f q
theorem xcase_none {α : Type} (a : α) (f : Nat → α) : xcase none a f = a := rfl
theorem xlv_sub {lsA : Array Slot} {nL : Nat} {ls lv' : List (Nat × xV)} (h : lv_has lsA nL (xlv ls)) (js : List Nat) (hl : js.filterMap (fun j => ls[j]?) = lv') : lv_has lsA nL (xlv lv') := by
  subst hl
  refine ⟨h.1, h.2.1, fun q hq => ?_⟩
  obtain ⟨y, hy, rfl⟩ := List.mem_map.mp hq
  obtain ⟨j, -, hj⟩ := List.mem_filterMap.mp hy
  exact h.2.2 _ (List.mem_map.mpr ⟨y, List.mem_of_getElem? hj, rfl⟩)
theorem xcase_some {α : Type} (q : Nat) (a : α) (f : Nat → α) : xcase (some q) a f = f q := rfl
section XROWS
variable {M : xM} {D : xD} {d : Nat} {S0 : xS} {r : xRes} {pc : Nat} {ls : List (Nat × xV)} {st : List Value} {S : xS}
theorem x_iconst {i : Int} {v : Int32} (hd : decode M.2.1 pc = .ok (.iconst i, 1)) (hv : Int32.ofInt i = v) (kk : V M D d S0 r (pc + 1) ls (.int v :: st) S) : V M D d S0 r pc ls st S :=
  fun p l e R s m args below meth c A H locs k n lsA X => lv_iconst X.1.1.1 X.1.1.2.1 hd hv (kk p l e R s m args below meth c A H locs k n lsA X)
theorem x_bipush {i : Int} {v : Int32} (hd : decode M.2.1 pc = .ok (.bipush i, 2)) (hv : (Int8.ofInt i).toInt32 = v) (kk : V M D d S0 r (pc + 2) ls (.int v :: st) S) : V M D d S0 r pc ls st S :=
  fun p l e R s m args below meth c A H locs k n lsA X => lv_bipush X.1.1.1 X.1.1.2.1 hd hv (kk p l e R s m args below meth c A H locs k n lsA X)
theorem x_sipush {i : Int} {v : Int32} (hd : decode M.2.1 pc = .ok (.sipush i, 3)) (hv : (Int16.ofInt i).toInt32 = v) (kk : V M D d S0 r (pc + 3) ls (.int v :: st) S) : V M D d S0 r pc ls st S :=
  fun p l e R s m args below meth c A H locs k n lsA X => lv_sipush X.1.1.1 X.1.1.2.1 hd hv (kk p l e R s m args below meth c A H locs k n lsA X)
theorem x_lconst {i : Fin 2} {v : Int64} (hd : decode M.2.1 pc = .ok (.lconst i, 1)) (hv : Int64.ofNat (i : Nat) = v) (kk : V M D d S0 r (pc + 1) ls (.long v :: st) S) : V M D d S0 r pc ls st S :=
  fun p l e R s m args below meth c A H locs k n lsA X => lv_lconst X.1.1.1 X.1.1.2.1 hd hv (kk p l e R s m args below meth c A H locs k n lsA X)
theorem x_null (hd : decode M.2.1 pc = .ok (.aconst_null, 1)) (kk : V M D d S0 r (pc + 1) ls (va_rf none :: st) S) : V M D d S0 r pc ls st S :=
  fun p l e R s m args below meth c A H locs k n lsA X => lv_null X.1.1.1 X.1.1.2.1 hd (kk p l e R s m args below meth c A H locs k n lsA X)
theorem x_ldc {i : Nat} {v : Int32} (hd : decode M.2.1 pc = .ok (.ldc i, 2)) (hw : Cond.constant M.1.cls i v ∈ xT) (kk : V M D d S0 r (pc + 2) ls (.int v :: st) S) : V M D d S0 r pc ls st S :=
  fun p l e R s m args below meth c A H locs k n lsA X => lv_ldc X.1.1.1 X.1.1.2.1 X.1.1.2.2.2.2.1 (X.1.1.2.2.2.2.2.2.1 _ hw) hd (kk p l e R s m args below meth c A H locs k n lsA X)
theorem x_ldc2 {i : Nat} {v : Int64} (hd : decode M.2.1 pc = .ok (.ldc2_w i, 3)) (hw : Cond.constantLong M.1.cls i v ∈ xT) (kk : V M D d S0 r (pc + 3) ls (.long v :: st) S) : V M D d S0 r pc ls st S :=
  fun p l e R s m args below meth c A H locs k n lsA X => lv_ldc2 X.1.1.1 X.1.1.2.1 X.1.1.2.2.2.2.1 (X.1.1.2.2.2.2.2.2.1 _ hw) hd (kk p l e R s m args below meth c A H locs k n lsA X)
theorem x_iload_n {f : Fin 4} {i : Nat} {x : Int32} (j : Nat) (hd : decode M.2.1 pc = .ok (.iload_n f, 1)) (hi : (f : Nat) = i) (hj : ls[j]? = some (i, (.inl x))) (kk : V M D d S0 r (pc + 1) ls (.int x :: st) S) : V M D d S0 r pc ls st S :=
  fun p l e R s m args below meth c A H locs k n lsA X => lv_iload_n X.1.1.1 X.1.1.2.1 hd hi (lv_at X.2.2.2.2.2.2.2 j (xlv_at hj)) (kk p l e R s m args below meth c A H locs k n lsA X)
theorem x_iload {i : Nat} {x : Int32} (j : Nat) (hd : decode M.2.1 pc = .ok (.iload i, 2)) (hj : ls[j]? = some (i, (.inl x))) (kk : V M D d S0 r (pc + 2) ls (.int x :: st) S) : V M D d S0 r pc ls st S :=
  fun p l e R s m args below meth c A H locs k n lsA X => lv_iload X.1.1.1 X.1.1.2.1 hd (lv_at X.2.2.2.2.2.2.2 j (xlv_at hj)) (kk p l e R s m args below meth c A H locs k n lsA X)
theorem x_lload_n {f : Fin 4} {i : Nat} {x : Int64} (j : Nat) (hd : decode M.2.1 pc = .ok (.lload_n f, 1)) (hi : (f : Nat) = i) (hj : ls[j]? = some (i, (.inr (.inl x)))) (kk : V M D d S0 r (pc + 1) ls (.long x :: st) S) : V M D d S0 r pc ls st S :=
  fun p l e R s m args below meth c A H locs k n lsA X => lv_lload_n X.1.1.1 X.1.1.2.1 hd hi (lv_at X.2.2.2.2.2.2.2 j (xlv_at hj)) (kk p l e R s m args below meth c A H locs k n lsA X)
theorem x_lload {i : Nat} {x : Int64} (j : Nat) (hd : decode M.2.1 pc = .ok (.lload i, 2)) (hj : ls[j]? = some (i, (.inr (.inl x)))) (kk : V M D d S0 r (pc + 2) ls (.long x :: st) S) : V M D d S0 r pc ls st S :=
  fun p l e R s m args below meth c A H locs k n lsA X => lv_lload X.1.1.1 X.1.1.2.1 hd (lv_at X.2.2.2.2.2.2.2 j (xlv_at hj)) (kk p l e R s m args below meth c A H locs k n lsA X)
theorem x_aload_n {f : Fin 4} {i : Nat} {x : Option Nat} (j : Nat) (hd : decode M.2.1 pc = .ok (.aload_n f, 1)) (hi : (f : Nat) = i) (hj : ls[j]? = some (i, (.inr (.inr x)))) (kk : V M D d S0 r (pc + 1) ls (va_rf x :: st) S) : V M D d S0 r pc ls st S := by
  cases x with
  | none => exact fun p l e R s m args below meth c A H locs k n lsA X => lv_aload_nN X.1.1.1 X.1.1.2.1 hd hi (lv_at X.2.2.2.2.2.2.2 j (xlv_at hj)) (kk p l e R s m args below meth c A H locs k n lsA X)
  | some a => exact fun p l e R s m args below meth c A H locs k n lsA X => lv_aload_n X.1.1.1 X.1.1.2.1 hd hi (lv_at X.2.2.2.2.2.2.2 j (xlv_at hj)) (kk p l e R s m args below meth c A H locs k n lsA X)
theorem x_aload {i : Nat} {x : Option Nat} (j : Nat) (hd : decode M.2.1 pc = .ok (.aload i, 2)) (hj : ls[j]? = some (i, (.inr (.inr x)))) (kk : V M D d S0 r (pc + 2) ls (va_rf x :: st) S) : V M D d S0 r pc ls st S := by
  cases x with
  | none => exact fun p l e R s m args below meth c A H locs k n lsA X => lv_aloadN X.1.1.1 X.1.1.2.1 hd (lv_at X.2.2.2.2.2.2.2 j (xlv_at hj)) (kk p l e R s m args below meth c A H locs k n lsA X)
  | some a => exact fun p l e R s m args below meth c A H locs k n lsA X => lv_aload X.1.1.1 X.1.1.2.1 hd (lv_at X.2.2.2.2.2.2.2 j (xlv_at hj)) (kk p l e R s m args below meth c A H locs k n lsA X)
theorem x_istore_n {f : Fin 4} {i : Nat} {x : Int32} {lv' : List (Nat × xV)} (hd : decode M.2.1 pc = .ok (.istore_n f, 1)) (hi : (f : Nat) = i) (hn : i < M.2.2.1) (hl : xst1 ls i (.inl x) = lv') (kk : V M D d S0 r (pc + 1) lv' st S) : V M D d S0 r pc ls (.int x :: st) S := by
  subst hl
  exact fun p l e R s m args below meth c A H locs k n lsA X => lv_istore_n X.1.1.1 X.1.1.2.1 hd hi X.2.2.2.2.2.2.2 hn (xlv_st1 ls i (.inl x)) (fun ls' h => kk p l e R s m args below meth c A H locs k n ls' ⟨X.1, X.2.1, X.2.2.1, X.2.2.2.1, X.2.2.2.2.1, X.2.2.2.2.2.1, X.2.2.2.2.2.2.1, h⟩)
theorem x_istore {i : Nat} {x : Int32} {lv' : List (Nat × xV)} (hd : decode M.2.1 pc = .ok (.istore i, 2)) (hn : i < M.2.2.1) (hl : xst1 ls i (.inl x) = lv') (kk : V M D d S0 r (pc + 2) lv' st S) : V M D d S0 r pc ls (.int x :: st) S := by
  subst hl
  exact fun p l e R s m args below meth c A H locs k n lsA X => lv_istore X.1.1.1 X.1.1.2.1 hd X.2.2.2.2.2.2.2 hn (xlv_st1 ls i (.inl x)) (fun ls' h => kk p l e R s m args below meth c A H locs k n ls' ⟨X.1, X.2.1, X.2.2.1, X.2.2.2.1, X.2.2.2.2.1, X.2.2.2.2.2.1, X.2.2.2.2.2.2.1, h⟩)
theorem x_lstore_n {f : Fin 4} {i : Nat} {x : Int64} {lv' : List (Nat × xV)} (hd : decode M.2.1 pc = .ok (.lstore_n f, 1)) (hi : (f : Nat) = i) (hn : i + 1 < M.2.2.1) (hl : xst2 ls i (.inr (.inl x)) = lv') (kk : V M D d S0 r (pc + 1) lv' st S) : V M D d S0 r pc ls (.long x :: st) S := by
  subst hl
  exact fun p l e R s m args below meth c A H locs k n lsA X => lv_lstore_n X.1.1.1 X.1.1.2.1 hd hi X.2.2.2.2.2.2.2 hn (xlv_st2 ls i (.inr (.inl x))) (fun ls' h => kk p l e R s m args below meth c A H locs k n ls' ⟨X.1, X.2.1, X.2.2.1, X.2.2.2.1, X.2.2.2.2.1, X.2.2.2.2.2.1, X.2.2.2.2.2.2.1, h⟩)
theorem x_lstore {i : Nat} {x : Int64} {lv' : List (Nat × xV)} (hd : decode M.2.1 pc = .ok (.lstore i, 2)) (hn : i + 1 < M.2.2.1) (hl : xst2 ls i (.inr (.inl x)) = lv') (kk : V M D d S0 r (pc + 2) lv' st S) : V M D d S0 r pc ls (.long x :: st) S := by
  subst hl
  exact fun p l e R s m args below meth c A H locs k n lsA X => lv_lstore X.1.1.1 X.1.1.2.1 hd X.2.2.2.2.2.2.2 hn (xlv_st2 ls i (.inr (.inl x))) (fun ls' h => kk p l e R s m args below meth c A H locs k n ls' ⟨X.1, X.2.1, X.2.2.1, X.2.2.2.1, X.2.2.2.2.1, X.2.2.2.2.2.1, X.2.2.2.2.2.2.1, h⟩)
theorem x_astore_n {f : Fin 4} {i : Nat} {x : Option Nat} {lv' : List (Nat × xV)} (hd : decode M.2.1 pc = .ok (.astore_n f, 1)) (hi : (f : Nat) = i) (hn : i < M.2.2.1) (hl : xst1 ls i (.inr (.inr x)) = lv') (kk : V M D d S0 r (pc + 1) lv' st S) : V M D d S0 r pc ls (va_rf x :: st) S := by
  subst hl
  cases x with
  | none => exact fun p l e R s m args below meth c A H locs k n lsA X => lv_astore_nN X.1.1.1 X.1.1.2.1 hd hi X.2.2.2.2.2.2.2 hn (xlv_st1 ls i (.inr (.inr none))) (fun ls' h => kk p l e R s m args below meth c A H locs k n ls' ⟨X.1, X.2.1, X.2.2.1, X.2.2.2.1, X.2.2.2.2.1, X.2.2.2.2.2.1, X.2.2.2.2.2.2.1, h⟩)
  | some a => exact fun p l e R s m args below meth c A H locs k n lsA X => lv_astore_n X.1.1.1 X.1.1.2.1 hd hi X.2.2.2.2.2.2.2 hn (xlv_st1 ls i (.inr (.inr (some a)))) (fun ls' h => kk p l e R s m args below meth c A H locs k n ls' ⟨X.1, X.2.1, X.2.2.1, X.2.2.2.1, X.2.2.2.2.1, X.2.2.2.2.2.1, X.2.2.2.2.2.2.1, h⟩)
theorem x_astore {i : Nat} {x : Option Nat} {lv' : List (Nat × xV)} (hd : decode M.2.1 pc = .ok (.astore i, 2)) (hn : i < M.2.2.1) (hl : xst1 ls i (.inr (.inr x)) = lv') (kk : V M D d S0 r (pc + 2) lv' st S) : V M D d S0 r pc ls (va_rf x :: st) S := by
  subst hl
  cases x with
  | none => exact fun p l e R s m args below meth c A H locs k n lsA X => lv_astoreN X.1.1.1 X.1.1.2.1 hd X.2.2.2.2.2.2.2 hn (xlv_st1 ls i (.inr (.inr none))) (fun ls' h => kk p l e R s m args below meth c A H locs k n ls' ⟨X.1, X.2.1, X.2.2.1, X.2.2.2.1, X.2.2.2.2.1, X.2.2.2.2.2.1, X.2.2.2.2.2.2.1, h⟩)
  | some a => exact fun p l e R s m args below meth c A H locs k n lsA X => lv_astore X.1.1.1 X.1.1.2.1 hd X.2.2.2.2.2.2.2 hn (xlv_st1 ls i (.inr (.inr (some a)))) (fun ls' h => kk p l e R s m args below meth c A H locs k n ls' ⟨X.1, X.2.1, X.2.2.1, X.2.2.2.1, X.2.2.2.2.1, X.2.2.2.2.2.1, X.2.2.2.2.2.2.1, h⟩)
theorem x_iinc {i : Nat} {b : Int} {x v : Int32} {lv' : List (Nat × xV)} (j : Nat) (hd : decode M.2.1 pc = .ok (.iinc i b, 3)) (hj : ls[j]? = some (i, .inl x)) (hv : Int32.ofInt b = v) (hn : i < M.2.2.1) (hl : xst1 ls i (.inl (x + v)) = lv') (kk : V M D d S0 r (pc + 3) lv' st S) : V M D d S0 r pc ls st S := by
  subst hl
  subst hv
  exact fun p l e R s m args below meth c A H locs k n lsA X => lv_iinc X.1.1.1 X.1.1.2.1 hd X.2.2.2.2.2.2.2 (xlv_at hj) rfl hn (xlv_st1 ls i (.inl (x + Int32.ofInt b))) (fun ls' h => kk p l e R s m args below meth c A H locs k n ls' ⟨X.1, X.2.1, X.2.2.1, X.2.2.2.1, X.2.2.2.2.1, X.2.2.2.2.2.1, X.2.2.2.2.2.2.1, h⟩)
theorem x_ls {lv' : List (Nat × xV)} (js : List Nat) (hl : js.filterMap (fun j => ls[j]?) = lv') (kk : V M D d S0 r pc lv' st S) : V M D d S0 r pc ls st S :=
  fun p l e R s m args below meth c A H locs k n lsA X => kk p l e R s m args below meth c A H locs k n lsA ⟨X.1, X.2.1, X.2.2.1, X.2.2.2.1, X.2.2.2.2.1, X.2.2.2.2.2.1, X.2.2.2.2.2.2.1, xlv_sub X.2.2.2.2.2.2.2 js hl⟩
theorem x_iadd {x y : Int32} (hd : decode M.2.1 pc = .ok (.iadd, 1)) (kk : V M D d S0 r (pc + 1) ls (.int (x + y) :: st) S) : V M D d S0 r pc ls (.int y :: .int x :: st) S :=
  fun p l e R s m args below meth c A H locs k n lsA X => lv_iadd X.1.1.1 X.1.1.2.1 hd (kk p l e R s m args below meth c A H locs k n lsA X)
theorem x_isub {x y : Int32} (hd : decode M.2.1 pc = .ok (.isub, 1)) (kk : V M D d S0 r (pc + 1) ls (.int (x - y) :: st) S) : V M D d S0 r pc ls (.int y :: .int x :: st) S :=
  fun p l e R s m args below meth c A H locs k n lsA X => lv_isub X.1.1.1 X.1.1.2.1 hd (kk p l e R s m args below meth c A H locs k n lsA X)
theorem x_imul {x y : Int32} (hd : decode M.2.1 pc = .ok (.imul, 1)) (kk : V M D d S0 r (pc + 1) ls (.int (x * y) :: st) S) : V M D d S0 r pc ls (.int y :: .int x :: st) S :=
  fun p l e R s m args below meth c A H locs k n lsA X => lv_imul X.1.1.1 X.1.1.2.1 hd (kk p l e R s m args below meth c A H locs k n lsA X)
theorem x_iand {x y : Int32} (hd : decode M.2.1 pc = .ok (.iand, 1)) (kk : V M D d S0 r (pc + 1) ls (.int (x &&& y) :: st) S) : V M D d S0 r pc ls (.int y :: .int x :: st) S :=
  fun p l e R s m args below meth c A H locs k n lsA X => lv_iand X.1.1.1 X.1.1.2.1 hd (kk p l e R s m args below meth c A H locs k n lsA X)
theorem x_ior {x y : Int32} (hd : decode M.2.1 pc = .ok (.ior, 1)) (kk : V M D d S0 r (pc + 1) ls (.int (x ||| y) :: st) S) : V M D d S0 r pc ls (.int y :: .int x :: st) S :=
  fun p l e R s m args below meth c A H locs k n lsA X => lv_ior X.1.1.1 X.1.1.2.1 hd (kk p l e R s m args below meth c A H locs k n lsA X)
theorem x_ixor {x y : Int32} (hd : decode M.2.1 pc = .ok (.ixor, 1)) (kk : V M D d S0 r (pc + 1) ls (.int (x ^^^ y) :: st) S) : V M D d S0 r pc ls (.int y :: .int x :: st) S :=
  fun p l e R s m args below meth c A H locs k n lsA X => lv_ixor X.1.1.1 X.1.1.2.1 hd (kk p l e R s m args below meth c A H locs k n lsA X)
theorem x_ishl {x y : Int32} (hd : decode M.2.1 pc = .ok (.ishl, 1)) (kk : V M D d S0 r (pc + 1) ls (.int (x <<< (y &&& 31)) :: st) S) : V M D d S0 r pc ls (.int y :: .int x :: st) S :=
  fun p l e R s m args below meth c A H locs k n lsA X => lv_ishl X.1.1.1 X.1.1.2.1 hd (kk p l e R s m args below meth c A H locs k n lsA X)
theorem x_ishr {x y : Int32} (hd : decode M.2.1 pc = .ok (.ishr, 1)) (kk : V M D d S0 r (pc + 1) ls (.int (x >>> (y &&& 31)) :: st) S) : V M D d S0 r pc ls (.int y :: .int x :: st) S :=
  fun p l e R s m args below meth c A H locs k n lsA X => lv_ishr X.1.1.1 X.1.1.2.1 hd (kk p l e R s m args below meth c A H locs k n lsA X)
theorem x_ineg {x : Int32} (hd : decode M.2.1 pc = .ok (.ineg, 1)) (kk : V M D d S0 r (pc + 1) ls (.int (-x) :: st) S) : V M D d S0 r pc ls (.int x :: st) S :=
  fun p l e R s m args below meth c A H locs k n lsA X => lv_ineg X.1.1.1 X.1.1.2.1 hd (kk p l e R s m args below meth c A H locs k n lsA X)
theorem x_ladd {x y : Int64} (hd : decode M.2.1 pc = .ok (.ladd, 1)) (kk : V M D d S0 r (pc + 1) ls (.long (x + y) :: st) S) : V M D d S0 r pc ls (.long y :: .long x :: st) S :=
  fun p l e R s m args below meth c A H locs k n lsA X => lv_ladd X.1.1.1 X.1.1.2.1 hd (kk p l e R s m args below meth c A H locs k n lsA X)
theorem x_lsub {x y : Int64} (hd : decode M.2.1 pc = .ok (.lsub, 1)) (kk : V M D d S0 r (pc + 1) ls (.long (x - y) :: st) S) : V M D d S0 r pc ls (.long y :: .long x :: st) S :=
  fun p l e R s m args below meth c A H locs k n lsA X => lv_lsub X.1.1.1 X.1.1.2.1 hd (kk p l e R s m args below meth c A H locs k n lsA X)
theorem x_lmul {x y : Int64} (hd : decode M.2.1 pc = .ok (.lmul, 1)) (kk : V M D d S0 r (pc + 1) ls (.long (x * y) :: st) S) : V M D d S0 r pc ls (.long y :: .long x :: st) S :=
  fun p l e R s m args below meth c A H locs k n lsA X => lv_lmul X.1.1.1 X.1.1.2.1 hd (kk p l e R s m args below meth c A H locs k n lsA X)
theorem x_land {x y : Int64} (hd : decode M.2.1 pc = .ok (.land, 1)) (kk : V M D d S0 r (pc + 1) ls (.long (x &&& y) :: st) S) : V M D d S0 r pc ls (.long y :: .long x :: st) S :=
  fun p l e R s m args below meth c A H locs k n lsA X => lv_land X.1.1.1 X.1.1.2.1 hd (kk p l e R s m args below meth c A H locs k n lsA X)
theorem x_lor {x y : Int64} (hd : decode M.2.1 pc = .ok (.lor, 1)) (kk : V M D d S0 r (pc + 1) ls (.long (x ||| y) :: st) S) : V M D d S0 r pc ls (.long y :: .long x :: st) S :=
  fun p l e R s m args below meth c A H locs k n lsA X => lv_lor X.1.1.1 X.1.1.2.1 hd (kk p l e R s m args below meth c A H locs k n lsA X)
theorem x_lxor {x y : Int64} (hd : decode M.2.1 pc = .ok (.lxor, 1)) (kk : V M D d S0 r (pc + 1) ls (.long (x ^^^ y) :: st) S) : V M D d S0 r pc ls (.long y :: .long x :: st) S :=
  fun p l e R s m args below meth c A H locs k n lsA X => lv_lxor X.1.1.1 X.1.1.2.1 hd (kk p l e R s m args below meth c A H locs k n lsA X)
theorem x_i2l {x : Int32} (hd : decode M.2.1 pc = .ok (.i2l, 1)) (kk : V M D d S0 r (pc + 1) ls (.long x.toInt64 :: st) S) : V M D d S0 r pc ls (.int x :: st) S :=
  fun p l e R s m args below meth c A H locs k n lsA X => lv_i2l X.1.1.1 X.1.1.2.1 hd rfl (kk p l e R s m args below meth c A H locs k n lsA X)
theorem x_l2i {x : Int64} (hd : decode M.2.1 pc = .ok (.l2i, 1)) (kk : V M D d S0 r (pc + 1) ls (.int x.toInt32 :: st) S) : V M D d S0 r pc ls (.long x :: st) S :=
  fun p l e R s m args below meth c A H locs k n lsA X => lv_l2i X.1.1.1 X.1.1.2.1 hd rfl (kk p l e R s m args below meth c A H locs k n lsA X)
theorem x_i2b {x : Int32} (hd : decode M.2.1 pc = .ok (.i2b, 1)) (kk : V M D d S0 r (pc + 1) ls (.int x.toInt8.toInt32 :: st) S) : V M D d S0 r pc ls (.int x :: st) S :=
  fun p l e R s m args below meth c A H locs k n lsA X => lv_i2b X.1.1.1 X.1.1.2.1 hd rfl (kk p l e R s m args below meth c A H locs k n lsA X)
theorem x_iushr {x y : Int32} (hd : decode M.2.1 pc = .ok (.iushr, 1)) (kk : V M D d S0 r (pc + 1) ls (.int (x.toUInt32 >>> (y.toUInt32 &&& Int32.toUInt32 31)).toInt32 :: st) S) : V M D d S0 r pc ls (.int y :: .int x :: st) S :=
  fun p l e R s m args below meth c A H locs k n lsA X => lv_iushr X.1.1.1 X.1.1.2.1 hd rfl (kk p l e R s m args below meth c A H locs k n lsA X)
theorem x_lushr {x : Int64} {y : Int32} (hd : decode M.2.1 pc = .ok (.lushr, 1)) (kk : V M D d S0 r (pc + 1) ls (.long (x.toUInt64 >>> (y.toInt64.toUInt64 &&& Int64.toUInt64 63)).toInt64 :: st) S) : V M D d S0 r pc ls (.int y :: .long x :: st) S :=
  fun p l e R s m args below meth c A H locs k n lsA X => lv_lushr X.1.1.1 X.1.1.2.1 hd rfl (kk p l e R s m args below meth c A H locs k n lsA X)
theorem x_lshl {x : Int64} {y : Int32} (hd : decode M.2.1 pc = .ok (.lshl, 1)) (kk : V M D d S0 r (pc + 1) ls (.long (x <<< (y.toInt64 &&& 63)) :: st) S) : V M D d S0 r pc ls (.int y :: .long x :: st) S :=
  fun p l e R s m args below meth c A H locs k n lsA X => lv_lshl X.1.1.1 X.1.1.2.1 hd rfl (kk p l e R s m args below meth c A H locs k n lsA X)
theorem x_lcmp {x y : Int64} (hd : decode M.2.1 pc = .ok (.lcmp, 1)) (kk : V M D d S0 r (pc + 1) ls (.int (lg_cmp x y) :: st) S) : V M D d S0 r pc ls (.long y :: .long x :: st) S :=
  fun p l e R s m args below meth c A H locs k n lsA X => W.lcmp X.1.1.1 X.1.1.2.1 hd (kk p l e R s m args below meth c A H locs k n lsA X)
theorem x_dup {v : Value} (hd : decode M.2.1 pc = .ok (.dup, 1)) (hv : v.category = 1) (kk : V M D d S0 r (pc + 1) ls (v :: v :: st) S) : V M D d S0 r pc ls (v :: st) S :=
  fun p l e R s m args below meth c A H locs k n lsA X => lv_dup X.1.1.1 X.1.1.2.1 hd hv (kk p l e R s m args below meth c A H locs k n lsA X)
theorem x_pop {v : Value} (hd : decode M.2.1 pc = .ok (.pop, 1)) (hv : v.category = 1) (kk : V M D d S0 r (pc + 1) ls st S) : V M D d S0 r pc ls (v :: st) S :=
  fun p l e R s m args below meth c A H locs k n lsA X => lv_pop X.1.1.1 X.1.1.2.1 hd hv (kk p l e R s m args below meth c A H locs k n lsA X)
theorem x_dup_x1 {v w : Value} (hd : decode M.2.1 pc = .ok (.dup_x1, 1)) (hv : v.category = 1) (hw : w.category = 1) (kk : V M D d S0 r (pc + 1) ls (v :: w :: v :: st) S) : V M D d S0 r pc ls (v :: w :: st) S :=
  fun p l e R s m args below meth c A H locs k n lsA X => lv_dup_x1 X.1.1.1 X.1.1.2.1 hd hv hw (kk p l e R s m args below meth c A H locs k n lsA X)
theorem x_dup2 {v w : Value} (hd : decode M.2.1 pc = .ok (.dup2, 1)) (hv : v.category = 1) (hw : w.category = 1) (kk : V M D d S0 r (pc + 1) ls (v :: w :: v :: w :: st) S) : V M D d S0 r pc ls (v :: w :: st) S :=
  fun p l e R s m args below meth c A H locs k n lsA X => lv_dup2_11 X.1.1.1 X.1.1.2.1 hd hv hw (kk p l e R s m args below meth c A H locs k n lsA X)
theorem x_dup_x2 {v w u : Value} (hd : decode M.2.1 pc = .ok (.dup_x2, 1)) (hv : v.category = 1) (hw : w.category = 1) (hu : u.category = 1) (kk : V M D d S0 r (pc + 1) ls (v :: w :: u :: v :: st) S) : V M D d S0 r pc ls (v :: w :: u :: st) S :=
  fun p l e R s m args below meth c A H locs k n lsA X => lv_dup_x2 X.1.1.1 X.1.1.2.1 hd hv hw hu (kk p l e R s m args below meth c A H locs k n lsA X)
theorem x_goto {off : Int} {tgt : Nat} (hd : decode M.2.1 pc = .ok (.goto off, 3)) (ht : (pc : Int) + off = (tgt : Int)) (kk : V M D d S0 r tgt ls st S) : V M D d S0 r pc ls st S :=
  fun p l e R s m args below meth c A H locs k n lsA X => lv_goto X.1.1.1 X.1.1.2.1 hd ht (kk p l e R s m args below meth c A H locs k n lsA X)
theorem xcat (x : Option Nat) : (va_rf x).category = 1 := by cases x <;> rfl
theorem x_if_eq {α : Type} {x : Int32} {off : Int} {tgt : Nat} {Fa Fb : Option α} {z : α} (hd : decode M.2.1 pc = .ok (.ifCond .eq off, 3)) (ht : (pc : Int) + off = (tgt : Int)) (h : (if x = 0 then Fa else Fb) = some z) (kt : Fa = some z → V M D d S0 r tgt ls st S) (kf : Fb = some z → V M D d S0 r (pc + 3) ls st S) : V M D d S0 r pc ls (.int x :: st) S :=
  fun p l e R s m args below meth c A H locs k n lsA X => lv_if_eq X.1.1.1 X.1.1.2.1 hd ht (fun c9 => kt (by rw [if_pos c9] at h; exact h) p l e R s m args below meth c A H locs k n lsA X) (fun c9 => kf (by rw [if_neg c9] at h; exact h) p l e R s m args below meth c A H locs k n lsA X)
theorem x_if_ne {α : Type} {x : Int32} {off : Int} {tgt : Nat} {Fa Fb : Option α} {z : α} (hd : decode M.2.1 pc = .ok (.ifCond .ne off, 3)) (ht : (pc : Int) + off = (tgt : Int)) (h : (if x = 0 then Fa else Fb) = some z) (kt : Fb = some z → V M D d S0 r tgt ls st S) (kf : Fa = some z → V M D d S0 r (pc + 3) ls st S) : V M D d S0 r pc ls (.int x :: st) S :=
  fun p l e R s m args below meth c A H locs k n lsA X => lv_if_ne X.1.1.1 X.1.1.2.1 hd ht (fun c9 => kt (by rw [if_neg c9] at h; exact h) p l e R s m args below meth c A H locs k n lsA X) (fun c9 => kf (by rw [if_pos c9] at h; exact h) p l e R s m args below meth c A H locs k n lsA X)
theorem x_if_lt {α : Type} {x : Int32} {off : Int} {tgt : Nat} {Fa Fb : Option α} {z : α} (hd : decode M.2.1 pc = .ok (.ifCond .lt off, 3)) (ht : (pc : Int) + off = (tgt : Int)) (h : (if x < 0 then Fa else Fb) = some z) (kt : Fa = some z → V M D d S0 r tgt ls st S) (kf : Fb = some z → V M D d S0 r (pc + 3) ls st S) : V M D d S0 r pc ls (.int x :: st) S :=
  fun p l e R s m args below meth c A H locs k n lsA X => lv_if_lt X.1.1.1 X.1.1.2.1 hd ht (fun c9 => kt (by rw [if_pos c9] at h; exact h) p l e R s m args below meth c A H locs k n lsA X) (fun c9 => kf (by rw [if_neg c9] at h; exact h) p l e R s m args below meth c A H locs k n lsA X)
theorem x_if_ge {α : Type} {x : Int32} {off : Int} {tgt : Nat} {Fa Fb : Option α} {z : α} (hd : decode M.2.1 pc = .ok (.ifCond .ge off, 3)) (ht : (pc : Int) + off = (tgt : Int)) (h : (if 0 ≤ x then Fa else Fb) = some z) (kt : Fa = some z → V M D d S0 r tgt ls st S) (kf : Fb = some z → V M D d S0 r (pc + 3) ls st S) : V M D d S0 r pc ls (.int x :: st) S :=
  fun p l e R s m args below meth c A H locs k n lsA X => lv_if_ge X.1.1.1 X.1.1.2.1 hd ht (fun c9 => kt (by rw [if_pos c9] at h; exact h) p l e R s m args below meth c A H locs k n lsA X) (fun c9 => kf (by rw [if_neg c9] at h; exact h) p l e R s m args below meth c A H locs k n lsA X)
theorem x_if_gt {α : Type} {x : Int32} {off : Int} {tgt : Nat} {Fa Fb : Option α} {z : α} (hd : decode M.2.1 pc = .ok (.ifCond .gt off, 3)) (ht : (pc : Int) + off = (tgt : Int)) (h : (if 0 < x then Fa else Fb) = some z) (kt : Fa = some z → V M D d S0 r tgt ls st S) (kf : Fb = some z → V M D d S0 r (pc + 3) ls st S) : V M D d S0 r pc ls (.int x :: st) S :=
  fun p l e R s m args below meth c A H locs k n lsA X => lv_if_gt X.1.1.1 X.1.1.2.1 hd ht (fun c9 => kt (by rw [if_pos c9] at h; exact h) p l e R s m args below meth c A H locs k n lsA X) (fun c9 => kf (by rw [if_neg c9] at h; exact h) p l e R s m args below meth c A H locs k n lsA X)
theorem x_if_le {α : Type} {x : Int32} {off : Int} {tgt : Nat} {Fa Fb : Option α} {z : α} (hd : decode M.2.1 pc = .ok (.ifCond .le off, 3)) (ht : (pc : Int) + off = (tgt : Int)) (h : (if x ≤ 0 then Fa else Fb) = some z) (kt : Fa = some z → V M D d S0 r tgt ls st S) (kf : Fb = some z → V M D d S0 r (pc + 3) ls st S) : V M D d S0 r pc ls (.int x :: st) S :=
  fun p l e R s m args below meth c A H locs k n lsA X => lv_if_le X.1.1.1 X.1.1.2.1 hd ht (fun c9 => kt (by rw [if_pos c9] at h; exact h) p l e R s m args below meth c A H locs k n lsA X) (fun c9 => kf (by rw [if_neg c9] at h; exact h) p l e R s m args below meth c A H locs k n lsA X)
theorem x_icmp_eq {α : Type} {x y : Int32} {off : Int} {tgt : Nat} {Fa Fb : Option α} {z : α} (hd : decode M.2.1 pc = .ok (.if_icmp .eq off, 3)) (ht : (pc : Int) + off = (tgt : Int)) (h : (if x = y then Fa else Fb) = some z) (kt : Fa = some z → V M D d S0 r tgt ls st S) (kf : Fb = some z → V M D d S0 r (pc + 3) ls st S) : V M D d S0 r pc ls (.int y :: .int x :: st) S :=
  fun p l e R s m args below meth c A H locs k n lsA X => lv_icmp_eq X.1.1.1 X.1.1.2.1 hd ht (fun c9 => kt (by rw [if_pos c9] at h; exact h) p l e R s m args below meth c A H locs k n lsA X) (fun c9 => kf (by rw [if_neg c9] at h; exact h) p l e R s m args below meth c A H locs k n lsA X)
theorem x_icmp_ne {α : Type} {x y : Int32} {off : Int} {tgt : Nat} {Fa Fb : Option α} {z : α} (hd : decode M.2.1 pc = .ok (.if_icmp .ne off, 3)) (ht : (pc : Int) + off = (tgt : Int)) (h : (if x = y then Fa else Fb) = some z) (kt : Fb = some z → V M D d S0 r tgt ls st S) (kf : Fa = some z → V M D d S0 r (pc + 3) ls st S) : V M D d S0 r pc ls (.int y :: .int x :: st) S :=
  fun p l e R s m args below meth c A H locs k n lsA X => lv_icmp_ne X.1.1.1 X.1.1.2.1 hd ht (fun c9 => kt (by rw [if_neg c9] at h; exact h) p l e R s m args below meth c A H locs k n lsA X) (fun c9 => kf (by rw [if_pos c9] at h; exact h) p l e R s m args below meth c A H locs k n lsA X)
theorem x_icmp_lt {α : Type} {x y : Int32} {off : Int} {tgt : Nat} {Fa Fb : Option α} {z : α} (hd : decode M.2.1 pc = .ok (.if_icmp .lt off, 3)) (ht : (pc : Int) + off = (tgt : Int)) (h : (if x < y then Fa else Fb) = some z) (kt : Fa = some z → V M D d S0 r tgt ls st S) (kf : Fb = some z → V M D d S0 r (pc + 3) ls st S) : V M D d S0 r pc ls (.int y :: .int x :: st) S :=
  fun p l e R s m args below meth c A H locs k n lsA X => lv_icmp_lt X.1.1.1 X.1.1.2.1 hd ht (fun c9 => kt (by rw [if_pos c9] at h; exact h) p l e R s m args below meth c A H locs k n lsA X) (fun c9 => kf (by rw [if_neg c9] at h; exact h) p l e R s m args below meth c A H locs k n lsA X)
theorem x_icmp_ge {α : Type} {x y : Int32} {off : Int} {tgt : Nat} {Fa Fb : Option α} {z : α} (hd : decode M.2.1 pc = .ok (.if_icmp .ge off, 3)) (ht : (pc : Int) + off = (tgt : Int)) (h : (if y ≤ x then Fa else Fb) = some z) (kt : Fa = some z → V M D d S0 r tgt ls st S) (kf : Fb = some z → V M D d S0 r (pc + 3) ls st S) : V M D d S0 r pc ls (.int y :: .int x :: st) S :=
  fun p l e R s m args below meth c A H locs k n lsA X => lv_icmp_ge X.1.1.1 X.1.1.2.1 hd ht (fun c9 => kt (by rw [if_pos c9] at h; exact h) p l e R s m args below meth c A H locs k n lsA X) (fun c9 => kf (by rw [if_neg c9] at h; exact h) p l e R s m args below meth c A H locs k n lsA X)
theorem x_icmp_gt {α : Type} {x y : Int32} {off : Int} {tgt : Nat} {Fa Fb : Option α} {z : α} (hd : decode M.2.1 pc = .ok (.if_icmp .gt off, 3)) (ht : (pc : Int) + off = (tgt : Int)) (h : (if y < x then Fa else Fb) = some z) (kt : Fa = some z → V M D d S0 r tgt ls st S) (kf : Fb = some z → V M D d S0 r (pc + 3) ls st S) : V M D d S0 r pc ls (.int y :: .int x :: st) S :=
  fun p l e R s m args below meth c A H locs k n lsA X => lv_icmp_gt X.1.1.1 X.1.1.2.1 hd ht (fun c9 => kt (by rw [if_pos c9] at h; exact h) p l e R s m args below meth c A H locs k n lsA X) (fun c9 => kf (by rw [if_neg c9] at h; exact h) p l e R s m args below meth c A H locs k n lsA X)
theorem x_icmp_le {α : Type} {x y : Int32} {off : Int} {tgt : Nat} {Fa Fb : Option α} {z : α} (hd : decode M.2.1 pc = .ok (.if_icmp .le off, 3)) (ht : (pc : Int) + off = (tgt : Int)) (h : (if x ≤ y then Fa else Fb) = some z) (kt : Fa = some z → V M D d S0 r tgt ls st S) (kf : Fb = some z → V M D d S0 r (pc + 3) ls st S) : V M D d S0 r pc ls (.int y :: .int x :: st) S :=
  fun p l e R s m args below meth c A H locs k n lsA X => lv_icmp_le X.1.1.1 X.1.1.2.1 hd ht (fun c9 => kt (by rw [if_pos c9] at h; exact h) p l e R s m args below meth c A H locs k n lsA X) (fun c9 => kf (by rw [if_neg c9] at h; exact h) p l e R s m args below meth c A H locs k n lsA X)
theorem x_acmp_eq {α : Type} {x y : Option Nat} {off : Int} {tgt : Nat} {Fa Fb : Option α} {z : α} (hd : decode M.2.1 pc = .ok (.if_acmp .eq off, 3)) (ht : (pc : Int) + off = (tgt : Int)) (h : (if x = y then Fa else Fb) = some z) (kt : Fa = some z → V M D d S0 r tgt ls st S) (kf : Fb = some z → V M D d S0 r (pc + 3) ls st S) : V M D d S0 r pc ls (va_rf y :: va_rf x :: st) S :=
  fun p l e R s m args below meth c A H locs k n lsA X => lv_acmp_eq X.1.1.1 X.1.1.2.1 hd ht (fun c9 => kt (by rw [if_pos c9] at h; exact h) p l e R s m args below meth c A H locs k n lsA X) (fun c9 => kf (by rw [if_neg c9] at h; exact h) p l e R s m args below meth c A H locs k n lsA X)
theorem x_acmp_ne {α : Type} {x y : Option Nat} {off : Int} {tgt : Nat} {Fa Fb : Option α} {z : α} (hd : decode M.2.1 pc = .ok (.if_acmp .ne off, 3)) (ht : (pc : Int) + off = (tgt : Int)) (h : (if x = y then Fa else Fb) = some z) (kt : Fb = some z → V M D d S0 r tgt ls st S) (kf : Fa = some z → V M D d S0 r (pc + 3) ls st S) : V M D d S0 r pc ls (va_rf y :: va_rf x :: st) S :=
  fun p l e R s m args below meth c A H locs k n lsA X => lv_acmp_ne X.1.1.1 X.1.1.2.1 hd ht (fun c9 => kt (by rw [if_neg c9] at h; exact h) p l e R s m args below meth c A H locs k n lsA X) (fun c9 => kf (by rw [if_pos c9] at h; exact h) p l e R s m args below meth c A H locs k n lsA X)
theorem x_ifnull {α : Type} {x : Option Nat} {off : Int} {tgt : Nat} {Fa : Option α} {Fb : Nat → Option α} {z : α} (hd : decode M.2.1 pc = .ok (.ifnull off, 3)) (ht : (pc : Int) + off = (tgt : Int)) (h : xcase x Fa Fb = some z) (kt : x = none → Fa = some z → V M D d S0 r tgt ls st S) (kf : ∀ a, x = some a → Fb a = some z → V M D d S0 r (pc + 3) ls st S) : V M D d S0 r pc ls (va_rf x :: st) S := by
  cases x with
  | none => exact fun p l e R s m args below meth c A H locs k n lsA X => lv_ifnullN X.1.1.1 X.1.1.2.1 hd ht (kt rfl h p l e R s m args below meth c A H locs k n lsA X)
  | some a => exact fun p l e R s m args below meth c A H locs k n lsA X => lv_ifnull X.1.1.1 X.1.1.2.1 hd (kf a rfl h p l e R s m args below meth c A H locs k n lsA X)
theorem x_ifnonnull {α : Type} {x : Option Nat} {off : Int} {tgt : Nat} {Fa : Option α} {Fb : Nat → Option α} {z : α} (hd : decode M.2.1 pc = .ok (.ifnonnull off, 3)) (ht : (pc : Int) + off = (tgt : Int)) (h : xcase x Fa Fb = some z) (kt : ∀ a, x = some a → Fb a = some z → V M D d S0 r tgt ls st S) (kf : x = none → Fa = some z → V M D d S0 r (pc + 3) ls st S) : V M D d S0 r pc ls (va_rf x :: st) S := by
  cases x with
  | none => exact fun p l e R s m args below meth c A H locs k n lsA X => lv_ifnonnullN X.1.1.1 X.1.1.2.1 hd (kf rfl h p l e R s m args below meth c A H locs k n lsA X)
  | some a => exact fun p l e R s m args below meth c A H locs k n lsA X => lv_ifnonnull X.1.1.1 X.1.1.2.1 hd ht (kt a rfl h p l e R s m args below meth c A H locs k n lsA X)
end XROWS
