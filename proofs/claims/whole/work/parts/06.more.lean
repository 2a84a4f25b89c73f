section XMORE
variable {M : xM} {D : xD} {d : Nat} {S0 : xS} {r : xRes} {pc : Nat} {ls : List (Nat × xV)} {st : List Value} {S : xS} {α : Type}
theorem x_lshr {x : Int64} {y : Int32} (hd : decode M.2.1 pc = .ok (.lshr, 1)) (kk : V M D d S0 r (pc + 1) ls (.long (x >>> (y.toInt64 &&& 63)) :: st) S) : V M D d S0 r pc ls (.int y :: .long x :: st) S :=
  fun p l e R s m args below meth c A H locs k n lsA X => lv_lshr X.1.1.1 X.1.1.2.1 hd rfl (kk p l e R s m args below meth c A H locs k n lsA X)
theorem x_tabIn {x k : Int32} {dflt lo hi : Int} {offs : Array Int} {len : Nat} {off : Int} {tgt : Nat} (hd : decode M.2.1 pc = .ok (.tableswitch dflt lo hi offs, len)) (e : x = k) (h1 : ¬ k.toInt < lo) (h2 : ¬ hi < k.toInt) (ho : offs[(k.toInt - lo).toNat]? = some off) (ht : (pc : Int) + off = (tgt : Int)) (kk : V M D d S0 r tgt ls st S) : V M D d S0 r pc ls (.int x :: st) S := by
  subst e
  exact fun p l e R s m args below meth c A H locs k n lsA X => lv_tableIn X.1.1.1 X.1.1.2.1 hd h1 h2 ho ht (kk p l e R s m args below meth c A H locs k n lsA X)
theorem x_tabOut {x : Int32} {dflt lo hi : Int} {offs : Array Int} {len : Nat} {tgt : Nat} (hd : decode M.2.1 pc = .ok (.tableswitch dflt lo hi offs, len)) (h : x.toInt < lo ∨ hi < x.toInt) (ht : (pc : Int) + dflt = (tgt : Int)) (kk : V M D d S0 r tgt ls st S) : V M D d S0 r pc ls (.int x :: st) S :=
  fun p l e R s m args below meth c A H locs k n lsA X => lv_tableOut X.1.1.1 X.1.1.2.1 hd h ht (kk p l e R s m args below meth c A H locs k n lsA X)
theorem xtab_n {x : Int32} (n : Nat) (hn : n < 2 ^ 31) (h : ∀ k : Nat, k < n → ¬ x = nI k) : x.toInt < 0 ∨ (n : Int) - 1 < x.toInt := by
  rcases (show x.toInt < 0 ∨ 0 ≤ x.toInt by omega) with h0 | h0
  · exact Or.inl h0
  · rcases (show (n : Int) - 1 < x.toInt ∨ x.toInt ≤ (n : Int) - 1 by omega) with h1 | h1
    · exact Or.inr h1
    · exfalso
      refine h x.toInt.toNat (by omega) (Int32.toInt_inj.mp ?_)
      rw [nI_toInt (by omega)]
      omega
theorem xtab_4 {x : Int32} (e0 : ¬ x = 0) (e1 : ¬ x = 1) (e2 : ¬ x = 2) (e3 : ¬ x = 3) : x.toInt < 0 ∨ 3 < x.toInt := by
  have h := xtab_n (x := x) 4 (by decide) (fun k hk => by
    rcases (show k = 0 ∨ k = 1 ∨ k = 2 ∨ k = 3 by omega) with rfl | rfl | rfl | rfl
    · exact e0
    · exact e1
    · exact e2
    · exact e3)
  simpa using h
theorem xtab_13 {x : Int32} (e0 : ¬ x = 0) (e1 : ¬ x = 1) (e2 : ¬ x = 2) (e3 : ¬ x = 3) (e4 : ¬ x = 4) (e5 : ¬ x = 5) (e6 : ¬ x = 6) (e7 : ¬ x = 7) (e8 : ¬ x = 8) (e9 : ¬ x = 9) (e10 : ¬ x = 10) (e11 : ¬ x = 11) (e12 : ¬ x = 12) : x.toInt < 0 ∨ 12 < x.toInt := by
  have h := xtab_n (x := x) 13 (by decide) (fun k hk => by
    rcases (show k = 0 ∨ k = 1 ∨ k = 2 ∨ k = 3 ∨ k = 4 ∨ k = 5 ∨ k = 6 ∨ k = 7 ∨ k = 8 ∨ k = 9 ∨ k = 10 ∨ k = 11 ∨ k = 12 by omega) with rfl | rfl | rfl | rfl | rfl | rfl | rfl | rfl | rfl | rfl | rfl | rfl | rfl
    · exact e0
    · exact e1
    · exact e2
    · exact e3
    · exact e4
    · exact e5
    · exact e6
    · exact e7
    · exact e8
    · exact e9
    · exact e10
    · exact e11
    · exact e12)
  simpa using h
def xmax (x y : Int32) : Int32 := if x < y then y else x
def xmin (x y : Int32) : Int32 := if y < x then y else x
def xN : Nat := 5000
theorem xnar_o (C : String) (x : Option Nat) : narrow (.object C) (va_rf x) = va_rf x := by cases x <;> rfl
theorem xfit_o (C : String) (x : Option Nat) : fits (.object C) (va_rf x) = true := by cases x <;> rfl
theorem xnar_a (t : FieldType) (x : Option Nat) : narrow (.array t) (va_rf x) = va_rf x := by cases x <;> rfl
theorem xfit_a (t : FieldType) (x : Option Nat) : fits (.array t) (va_rf x) = true := by cases x <;> rfl
theorem x_mmax {index : Nat} {x y : Int32} (hd : decode M.2.1 pc = .ok (.invokestatic index, 3)) (hw : Cond.methodLink M.1.cls index Lib.Math.max.name ∈ xT ∧ Cond.static Lib.Math.max.name ∈ xT ∧ Cond.initialized "java/lang/Math" ∈ xT ∧ Cond.code Lib.Math.max.name Lib.Math.max.code 2 (some .int) ∈ xT) (hst : st.length ≤ 4) (kk : V M D (d + 1) S0 r (pc + 3) ls (.int (xmax x y) :: st) S) : V M D (d + 1) S0 r pc ls (.int y :: .int x :: st) S := by
  intro p l e R s m args below meth c A H locs k n lsA X
  have hts := X.1.1.2.2.2.2.2.2.1
  have hlo : xL * (d + 1) ≤ R.locals := X.1.2.2.2.2.2.1
  have hfr : d + 1 ≤ R.frames := X.1.2.2.2.2.1
  have c1 := X.1.2.2.2.2.2.2.1
  have c2 := X.1.2.2.2.2.2.2.2.1
  have e0 := X.2.2.2.2.1
  have e1 : S.2.2.2.1 = S0.2.2.2.1 := by rw [e0]
  have e2 : S.2.2.2.2 = S0.2.2.2.2 := by rw [e0]
  have e3 := X.2.2.2.2.2.1
  have e4 := X.2.2.2.2.2.2.1
  have e5 := X.2.1.2.2
  have hc := x_cats st hst
  have h64 : xL = 64 := rfl
  exact va_mmax X.1.1.1 X.1.1.2.1 (X.1.1.2.2.1.trans X.2.2.2.2.2.2.2.1.symm) X.1.1.2.2.2.2.1 (hts _ hw.1) (hts _ hw.2.1) (hts _ hw.2.2.1) (hts _ hw.2.2.2) (by omega) (by rw [Nat.mul_succ] at hlo; omega) (by omega) (by omega) hd (kk p l e R s m args below meth c A H locs k n lsA X)
theorem x_mmin {index : Nat} {x y : Int32} (hd : decode M.2.1 pc = .ok (.invokestatic index, 3)) (hw : Cond.methodLink M.1.cls index Lib.Math.min.name ∈ xT ∧ Cond.static Lib.Math.min.name ∈ xT ∧ Cond.initialized "java/lang/Math" ∈ xT ∧ Cond.code Lib.Math.min.name Lib.Math.min.code 2 (some .int) ∈ xT) (hst : st.length ≤ 4) (kk : V M D (d + 1) S0 r (pc + 3) ls (.int (xmin x y) :: st) S) : V M D (d + 1) S0 r pc ls (.int y :: .int x :: st) S := by
  intro p l e R s m args below meth c A H locs k n lsA X
  have hts := X.1.1.2.2.2.2.2.2.1
  have hlo : xL * (d + 1) ≤ R.locals := X.1.2.2.2.2.2.1
  have hfr : d + 1 ≤ R.frames := X.1.2.2.2.2.1
  have c1 := X.1.2.2.2.2.2.2.1
  have c2 := X.1.2.2.2.2.2.2.2.1
  have e0 := X.2.2.2.2.1
  have e1 : S.2.2.2.1 = S0.2.2.2.1 := by rw [e0]
  have e2 : S.2.2.2.2 = S0.2.2.2.2 := by rw [e0]
  have e3 := X.2.2.2.2.2.1
  have e4 := X.2.2.2.2.2.2.1
  have e5 := X.2.1.2.2
  have hc := x_cats st hst
  have h64 : xL = 64 := rfl
  exact va_mmin X.1.1.1 X.1.1.2.1 (X.1.1.2.2.1.trans X.2.2.2.2.2.2.2.1.symm) X.1.1.2.2.2.2.1 (hts _ hw.1) (hts _ hw.2.1) (hts _ hw.2.2.1) (hts _ hw.2.2.2) (by omega) (by rw [Nat.mul_succ] at hlo; omega) (by omega) (by omega) hd (kk p l e R s m args below meth c A H locs k n lsA X)
theorem x_objInit' {index : Nat} {x : Option Nat} {Fa : Option α} {z : α} (h : xcase x none (fun _ => Fa) = some z) (hd : decode M.2.1 pc = .ok (.invokespecial index, 3)) (hw : Cond.methodLink M.1.cls index objectInit ∈ xT) (hinst : Cond.instanceMethod objectInit ∈ xT) (hcode : Cond.code objectInit ⟨#[0xb1]⟩ 1 none ∈ xT) (hst : st.length ≤ 4) (kk : Fa = some z → V M D (d + 1) S0 r (pc + 3) ls st S) : V M D (d + 1) S0 r pc ls (va_rf x :: st) S := by
  cases x with
  | none => cases h
  | some a => exact x_objInit (by simp) hd hw hinst hcode hst (kk h)
theorem x_throwI {ec ik is ic : Nat} {cls text : String} {z : (Int32 ⊕ Nat) × xS} (h : xthrow d ec S = some z) (hE : xE ec = cls) (hh : M.2.2.2.2 = []) (hcls : Bundle.fit cls = true)
    (hw1 : Cond.classLink M.1.cls ik cls ∈ xT) (hw2 : Cond.initialized cls ∈ xT) (hw3 : Cond.stringRef M.1.cls is text ∈ xT) (hw4 : ∀ w ∈ vx_atS M.1.cls ic cls ["java/lang/RuntimeException", "java/lang/Exception"], w ∈ xT)
    (d0 : decode M.2.1 pc = .ok (.new ik, 3)) (d3 : decode M.2.1 (pc + 3) = .ok (.dup, 1)) (d4 : decode M.2.1 (pc + 4) = .ok (.ldc is, 2)) (d6 : decode M.2.1 (pc + 6) = .ok (.invokespecial ic, 3)) (d9 : decode M.2.1 (pc + 9) = .ok (.athrow, 1)) (hst : st.length ≤ 4) : V M D (d + 1) S0 (cvT z) pc ls st S := by
  unfold xthrow at h
  split at h
  case isFalse => cases h
  rename_i hl
  cases h
  exact x_throw0 hE hl.1 hl.2 hh hcls hw1 hw2 hw3 hw4 d0 d3 d4 d6 d9 hst
theorem x_throwV {ec ik is ic : Nat} {cls text : String} {z : (Unit ⊕ Nat) × xS} (h : xthrow d ec S = some z) (hE : xE ec = cls) (hh : M.2.2.2.2 = []) (hcls : Bundle.fit cls = true)
    (hw1 : Cond.classLink M.1.cls ik cls ∈ xT) (hw2 : Cond.initialized cls ∈ xT) (hw3 : Cond.stringRef M.1.cls is text ∈ xT) (hw4 : ∀ w ∈ vx_atS M.1.cls ic cls ["java/lang/RuntimeException", "java/lang/Exception"], w ∈ xT)
    (d0 : decode M.2.1 pc = .ok (.new ik, 3)) (d3 : decode M.2.1 (pc + 3) = .ok (.dup, 1)) (d4 : decode M.2.1 (pc + 4) = .ok (.ldc is, 2)) (d6 : decode M.2.1 (pc + 6) = .ok (.invokespecial ic, 3)) (d9 : decode M.2.1 (pc + 9) = .ok (.athrow, 1)) (hst : st.length ≤ 4) : V M D (d + 1) S0 (cvU z) pc ls st S := by
  unfold xthrow at h
  split at h
  case isFalse => cases h
  rename_i hl
  cases h
  exact x_throw0 hE hl.1 hl.2 hh hcls hw1 hw2 hw3 hw4 d0 d3 d4 d6 d9 hst
theorem xatS_in {L : List Cond} (h : L.all (fun w => decide (w ∈ lw_tbl) && xGood w) = true) : ∀ w ∈ L, w ∈ xT := by
  intro w hw
  have h1 := List.all_eq_true.mp h w hw
  simp only [Bool.and_eq_true, decide_eq_true_eq] at h1
  exact xT_in h1.1 h1.2
end XMORE
