def e_T_init (d : Nat) (p0 : Option Nat) (S : xS) : Option (Unit × xS) := xcase p0 none (fun _ => some ((), S))
def f_T_init : Nat → (Option Nat → xS → Option (Unit × xS))
  | 0 => fun _ _ => none
  | d + 1 => fun p0 S => e_T_init d p0 S
def e_P_init (d : Nat) (p0 : Option Nat) (S : xS) : Option (Unit × xS) := xcase p0 none (fun _ => (xnewa S 0 2048 (.inl (fun _ => 0))).bind fun q1 => (xput q1.2 p0 0 0 (va_rf (some q1.1))).bind fun S2 => (xnewa S2 2 16 (.inr (.inr (.inr (.inr (fun _ => none)))))).bind fun q3 => (xput q3.2 p0 0 2 (va_rf (some q3.1))).bind fun S4 => (xnew S4 4 [.null]).bind fun q5 => (f_T_init d (some q5.1) q5.2).bind fun q6 => (xput q6.2 p0 0 3 (va_rf (some q5.1))).bind fun S7 => some ((), S7))
def f_P_init : Nat → (Option Nat → xS → Option (Unit × xS))
  | 0 => fun _ _ => none
  | d + 1 => fun p0 S => e_P_init d p0 S
def b_P_append_39 (d : Nat) (S : xS) : Option (Unit × xS) := some ((), S)
def e_P_append (d : Nat) (p0 : Option Nat) (p1 : Int32) (S : xS) : Option (Unit × xS) := (xgI S p0 0 1).bind fun v1 => (if v1 < 0 then (b_P_append_39 d S) else ((xgI S p0 0 1).bind fun v2 => (xgR S p0 0 0).bind fun v3 => (xlen S v3 0).bind fun v4 => (if v4 ≤ v2 then (b_P_append_39 d S) else ((xgR S p0 0 0).bind fun v5 => (xgI S p0 0 1).bind fun v6 => (xstI S v5 0 v6 (vp_nar .byte p1)).bind fun S7 => (xgI S7 p0 0 1).bind fun v8 => (xput S7 p0 0 1 (.int (v8 + 1))).bind fun S9 => b_P_append_39 d S9))))
def f_P_append : Nat → (Option Nat → Int32 → xS → Option (Unit × xS))
  | 0 => fun _ _ _ => none
  | d + 1 => fun p0 p1 S => e_P_append d p0 p1 S
def b_P_bytesOf_2 (d : Nat) (k2 : Int64 → Int32 → xS → Option (Int32 × xS)) (x0 : Int64) (x2 : Int32) (S : xS) : Option (Int32 × xS) := (if 8 ≤ x2 then (some (8, S)) else (if (lg_cmp (((x0.toUInt64 >>> ((8 * x2).toInt64.toUInt64 &&& Int64.toUInt64 63)).toInt64) &&& ((255 : Int64))) ((0 : Int64))) = 0 then (some (x2, S)) else (k2 x0 (x2 + 1) S)))
def l_P_bytesOf_2 (d : Nat) : Nat → (Int64 → Int32 → xS → Option (Int32 × xS))
  | 0 => fun _ _ _ => none
  | n + 1 => fun x0 x2 S => b_P_bytesOf_2 d (l_P_bytesOf_2 d n) x0 x2 S
def e_P_bytesOf (d : Nat) (p0 : Int64) (S : xS) : Option (Int32 × xS) := l_P_bytesOf_2 d xN p0 0 S
def f_P_bytesOf : Nat → (Int64 → xS → Option (Int32 × xS))
  | 0 => fun _ _ => none
  | d + 1 => fun p0 S => e_P_bytesOf d p0 S
def b_P_write_50 (d : Nat) (k50 : Option Nat → Int64 → Int32 → Int32 → Int32 → xS → Option ((Int32 ⊕ Nat) × xS)) (x0 : Option Nat) (x1 : Int64) (x3 : Int32) (x4 : Int32) (x5 : Int32) (S : xS) : Option ((Int32 ⊕ Nat) × xS) := (if x3 ≤ x5 then (some (.inl x4, S)) else ((xobj S x0 0).bind fun _ => (f_P_append d x0 ((((x1.toUInt64 >>> ((8 * x5).toInt64.toUInt64 &&& Int64.toUInt64 63)).toInt64).toInt32).toInt8.toInt32) S).bind fun q1 => k50 x0 x1 x3 x4 (x5 + 1) q1.2))
def l_P_write_50 (d : Nat) : Nat → (Option Nat → Int64 → Int32 → Int32 → Int32 → xS → Option ((Int32 ⊕ Nat) × xS))
  | 0 => fun _ _ _ _ _ _ => none
  | n + 1 => fun x0 x1 x3 x4 x5 S => b_P_write_50 d (l_P_write_50 d n) x0 x1 x3 x4 x5 S
def e_P_write (d : Nat) (p0 : Option Nat) (p1 : Int64) (S : xS) : Option ((Int32 ⊕ Nat) × xS) := (f_P_bytesOf d p1 S).bind fun q1 => (if q1.1 = 0 then (xthrow d 0 q1.2) else ((xgI q1.2 p0 0 1).bind fun v2 => (if q1.1 ≤ (2048 - v2) then ((xgI q1.2 p0 0 1).bind fun v3 => l_P_write_50 d xN p0 p1 q1.1 v3 0 q1.2) else (xthrow d 1 q1.2))))
def f_P_write : Nat → (Option Nat → Int64 → xS → Option ((Int32 ⊕ Nat) × xS))
  | 0 => fun _ _ _ => none
  | d + 1 => fun p0 p1 S => e_P_write d p0 p1 S
def b_R_charactersOf_12 (d : Nat) (y0 : Int32) (S : xS) : Option (Int32 × xS) := some (y0, S)
def e_R_charactersOf (d : Nat) (p0 : Option Nat) (S : xS) : Option (Int32 × xS) := xcase p0 (b_R_charactersOf_12 d 0 S) (fun _ => (xgI S p0 2 7).bind fun v2 => b_R_charactersOf_12 d v2 S)
def f_R_charactersOf : Nat → (Option Nat → xS → Option (Int32 × xS))
  | 0 => fun _ _ => none
  | d + 1 => fun p0 S => e_R_charactersOf d p0 S
def b_P_become_20 (d : Nat) (x2 : Option Nat) (S : xS) : Option (Int32 × xS) := (f_R_charactersOf d x2 S).bind fun q1 => some (q1.1, q1.2)
def e_P_become (d : Nat) (p0 : Option Nat) (p1 : Int32) (p2 : Option Nat) (S : xS) : Option (Int32 × xS) := (if p1 < 0 then (b_P_become_20 d p2 S) else ((xgR S p0 0 2).bind fun v1 => (xlen S v1 2).bind fun v2 => (if v2 ≤ p1 then (b_P_become_20 d p2 S) else ((xgR S p0 0 2).bind fun v3 => (xstR S v3 2 2 p1 p2).bind fun S4 => b_P_become_20 d p2 S4))))
def f_P_become : Nat → (Option Nat → Int32 → Option Nat → xS → Option (Int32 × xS))
  | 0 => fun _ _ _ _ => none
  | d + 1 => fun p0 p1 p2 S => e_P_become d p0 p1 p2 S
def b_P_isText_18 (d : Nat) (y0 : Int32) (S : xS) : Option (Int32 × xS) := (if y0 = 0 ∨ y0 = 1 then some (y0, S) else none)
def b_P_isText_17 (d : Nat) (S : xS) : Option (Int32 × xS) := b_P_isText_18 d 0 S
def e_P_isText (d : Nat) (p0 : Option Nat) (p1 : Int32) (S : xS) : Option (Int32 × xS) := (if p1 < 0 then (b_P_isText_17 d S) else ((xgR S p0 0 2).bind fun v1 => (xlen S v1 2).bind fun v2 => (if v2 ≤ p1 then (b_P_isText_17 d S) else (b_P_isText_18 d 1 S))))
def f_P_isText : Nat → (Option Nat → Int32 → xS → Option (Int32 × xS))
  | 0 => fun _ _ _ => none
  | d + 1 => fun p0 p1 S => e_P_isText d p0 p1 S
def e_P_demandText (d : Nat) (p0 : Option Nat) (p1 : Int32) (S : xS) : Option ((Unit ⊕ Nat) × xS) := (xobj S p0 0).bind fun _ => (f_P_isText d p0 p1 S).bind fun q1 => (if q1.1 = 0 then (xthrow d 2 q1.2) else (some (.inl (), q1.2)))
def f_P_demandText : Nat → (Option Nat → Int32 → xS → Option ((Unit ⊕ Nat) × xS))
  | 0 => fun _ _ _ => none
  | d + 1 => fun p0 p1 S => e_P_demandText d p0 p1 S
def b_P_rootOf_23 (d : Nat) (y0 : Option Nat) (S : xS) : Option (Option Nat × xS) := some (y0, S)
def b_P_rootOf_22 (d : Nat) (S : xS) : Option (Option Nat × xS) := b_P_rootOf_23 d none S
def e_P_rootOf (d : Nat) (p0 : Option Nat) (p1 : Int32) (S : xS) : Option (Option Nat × xS) := (if p1 < 0 then (b_P_rootOf_22 d S) else ((xgR S p0 0 2).bind fun v1 => (xlen S v1 2).bind fun v2 => (if v2 ≤ p1 then (b_P_rootOf_22 d S) else ((xgR S p0 0 2).bind fun v3 => (xldR S v3 2 p1).bind fun v4 => b_P_rootOf_23 d v4 S))))
def f_P_rootOf : Nat → (Option Nat → Int32 → xS → Option (Option Nat × xS))
  | 0 => fun _ _ _ => none
  | d + 1 => fun p0 p1 S => e_P_rootOf d p0 p1 S
def b_P_demandEdge_21 (d : Nat) (S : xS) : Option ((Unit ⊕ Nat) × xS) := xthrow d 2 S
def e_P_demandEdge (d : Nat) (p0 : Option Nat) (p1 : Int32) (p2 : Int32) (S : xS) : Option ((Unit ⊕ Nat) × xS) := (xobj S p0 0).bind fun _ => (f_P_demandText d p0 p1 S).bind fun q1 => xtry q1.1 (fun v2 => (if p2 < 0 then (b_P_demandEdge_21 d q1.2) else ((xobj q1.2 p0 0).bind fun _ => (f_P_rootOf d p0 p1 q1.2).bind fun q3 => (f_R_charactersOf d q3.1 q3.2).bind fun q4 => (if p2 ≤ q4.1 then (some (.inl (), q4.2)) else (b_P_demandEdge_21 d q4.2))))) (fun e => some (.inr e, q1.2))
def f_P_demandEdge : Nat → (Option Nat → Int32 → Int32 → xS → Option ((Unit ⊕ Nat) × xS))
  | 0 => fun _ _ _ _ => none
  | d + 1 => fun p0 p1 p2 S => e_P_demandEdge d p0 p1 p2 S
def b_P_charactersInAll_13 (d : Nat) (k13 : Int32 → Option Nat → Int32 → Int32 → xS → Option (Int32 × xS)) (x1 : Int32) (x2 : Option Nat) (x3 : Int32) (x4 : Int32) (S : xS) : Option (Int32 × xS) := (if x3 ≤ x4 then (some (x1, S)) else ((xldR S x2 2 x4).bind fun v1 => (f_R_charactersOf d v1 S).bind fun q2 => k13 (x1 + q2.1) x2 x3 (x4 + 1) q2.2))
def l_P_charactersInAll_13 (d : Nat) : Nat → (Int32 → Option Nat → Int32 → Int32 → xS → Option (Int32 × xS))
  | 0 => fun _ _ _ _ _ => none
  | n + 1 => fun x1 x2 x3 x4 S => b_P_charactersInAll_13 d (l_P_charactersInAll_13 d n) x1 x2 x3 x4 S
def e_P_charactersInAll (d : Nat) (p0 : Option Nat) (S : xS) : Option (Int32 × xS) := (xgR S p0 0 2).bind fun v1 => (xlen S v1 2).bind fun v2 => l_P_charactersInAll_13 d xN 0 v1 v2 0 S
def f_P_charactersInAll : Nat → (Option Nat → xS → Option (Int32 × xS))
  | 0 => fun _ _ => none
  | d + 1 => fun p0 S => e_P_charactersInAll d p0 S
def b_R_piecesOf_12 (d : Nat) (y0 : Int32) (S : xS) : Option (Int32 × xS) := some (y0, S)
def e_R_piecesOf (d : Nat) (p0 : Option Nat) (S : xS) : Option (Int32 × xS) := xcase p0 (b_R_piecesOf_12 d 0 S) (fun _ => (xgI S p0 2 6).bind fun v2 => b_R_piecesOf_12 d v2 S)
def f_R_piecesOf : Nat → (Option Nat → xS → Option (Int32 × xS))
  | 0 => fun _ _ => none
  | d + 1 => fun p0 S => e_R_piecesOf d p0 S
def b_P_piecesInAll_13 (d : Nat) (k13 : Int32 → Option Nat → Int32 → Int32 → xS → Option (Int32 × xS)) (x1 : Int32) (x2 : Option Nat) (x3 : Int32) (x4 : Int32) (S : xS) : Option (Int32 × xS) := (if x3 ≤ x4 then (some (x1, S)) else ((xldR S x2 2 x4).bind fun v1 => (f_R_piecesOf d v1 S).bind fun q2 => k13 (x1 + q2.1) x2 x3 (x4 + 1) q2.2))
def l_P_piecesInAll_13 (d : Nat) : Nat → (Int32 → Option Nat → Int32 → Int32 → xS → Option (Int32 × xS))
  | 0 => fun _ _ _ _ _ => none
  | n + 1 => fun x1 x2 x3 x4 S => b_P_piecesInAll_13 d (l_P_piecesInAll_13 d n) x1 x2 x3 x4 S
def e_P_piecesInAll (d : Nat) (p0 : Option Nat) (S : xS) : Option (Int32 × xS) := (xgR S p0 0 2).bind fun v1 => (xlen S v1 2).bind fun v2 => l_P_piecesInAll_13 d xN 0 v1 v2 0 S
def f_P_piecesInAll : Nat → (Option Nat → xS → Option (Int32 × xS))
  | 0 => fun _ _ => none
  | d + 1 => fun p0 S => e_P_piecesInAll d p0 S
def e_P_demandRoom (d : Nat) (p0 : Option Nat) (p1 : Int32) (p2 : Int32) (S : xS) : Option ((Unit ⊕ Nat) × xS) := (xobj S p0 0).bind fun _ => (f_P_charactersInAll d p0 S).bind fun q1 => (if q1.1 ≤ (4096 - p1) then ((xobj q1.2 p0 0).bind fun _ => (f_P_piecesInAll d p0 q1.2).bind fun q2 => (if q2.1 ≤ (1024 - p2) then (some (.inl (), q2.2)) else (xthrow d 1 q2.2))) else (xthrow d 1 q1.2))
def f_P_demandRoom : Nat → (Option Nat → Int32 → Int32 → xS → Option ((Unit ⊕ Nat) × xS))
  | 0 => fun _ _ _ _ => none
  | d + 1 => fun p0 p1 p2 S => e_P_demandRoom d p0 p1 p2 S
def b_R_orderAt_92 (d : Nat) (k7 : Int32 → Int32 → Option Nat → xS → Option (Int32 × xS)) (x2 : Int32) (x3 : Int32) (x4 : Option Nat) (S : xS) : Option (Int32 × xS) := k7 x2 x3 x4 S
def b_R_orderAt_7 (d : Nat) (k7 : Int32 → Int32 → Option Nat → xS → Option (Int32 × xS)) (x2 : Int32) (x3 : Int32) (x4 : Option Nat) (S : xS) : Option (Int32 × xS) := xcase x4 (some (x2, S)) (fun _ => (xgR S x4 2 3).bind fun v2 => (f_R_charactersOf d v2 S).bind fun q3 => (if q3.1 ≤ x3 then ((xgI q3.2 x4 2 1).bind fun v4 => (if (q3.1 + v4) ≤ x3 then ((xgR q3.2 x4 2 3).bind fun v5 => (f_R_piecesOf d v5 q3.2).bind fun q6 => (xgI q6.2 x4 2 1).bind fun v7 => (xgR q6.2 x4 2 4).bind fun v8 => b_R_orderAt_92 d k7 (x2 + (q6.1 + 1)) (x3 - (q3.1 + v7)) v8 q6.2) else ((xgR q3.2 x4 2 3).bind fun v9 => (f_R_piecesOf d v9 q3.2).bind fun q10 => some (x2 + q10.1, q10.2)))) else ((xgR q3.2 x4 2 3).bind fun v11 => b_R_orderAt_92 d k7 x2 x3 v11 q3.2)))
def l_R_orderAt_7 (d : Nat) : Nat → (Int32 → Int32 → Option Nat → xS → Option (Int32 × xS))
  | 0 => fun _ _ _ _ => none
  | n + 1 => fun x2 x3 x4 S => b_R_orderAt_7 d (l_R_orderAt_7 d n) x2 x3 x4 S
def e_R_orderAt (d : Nat) (p0 : Option Nat) (p1 : Int32) (S : xS) : Option (Int32 × xS) := l_R_orderAt_7 d xN 0 p1 p0 S
def f_R_orderAt : Nat → (Option Nat → Int32 → xS → Option (Int32 × xS))
  | 0 => fun _ _ _ => none
  | d + 1 => fun p0 p1 S => e_R_orderAt d p0 p1 S
def b_Y_before_18 (d : Nat) (y0 : Int32) (S : xS) : Option (Int32 × xS) := some (y0, S)
def e_Y_before (d : Nat) (p0 : Option Nat) (p1 : Int32) (S : xS) : Option (Int32 × xS) := (if 1 ≤ p1 then ((f_R_orderAt d p0 (p1 - 1) S).bind fun q1 => b_Y_before_18 d (q1.1 + 1) q1.2) else (b_Y_before_18 d 0 S))
def f_Y_before : Nat → (Option Nat → Int32 → xS → Option (Int32 × xS))
  | 0 => fun _ _ _ => none
  | d + 1 => fun p0 p1 S => e_Y_before d p0 p1 S
def e_Y_behind (d : Nat) (p0 : Option Nat) (p1 : Int32) (S : xS) : Option (Int32 × xS) := (f_R_piecesOf d p0 S).bind fun q1 => (f_R_orderAt d p0 p1 q1.2).bind fun q2 => some (q1.1 - q2.1, q2.2)
def f_Y_behind : Nat → (Option Nat → Int32 → xS → Option (Int32 × xS))
  | 0 => fun _ _ _ => none
  | d + 1 => fun p0 p1 S => e_Y_behind d p0 p1 S
def b_R_numbered_51 (d : Nat) (k4 : Int32 → Option Nat → xS → Option (Option Nat × xS)) (x2 : Int32) (x3 : Option Nat) (S : xS) : Option (Option Nat × xS) := k4 x2 x3 S
def b_R_numbered_4 (d : Nat) (k4 : Int32 → Option Nat → xS → Option (Option Nat × xS)) (x2 : Int32) (x3 : Option Nat) (S : xS) : Option (Option Nat × xS) := xcase x3 (some (none, S)) (fun _ => (xgR S x3 2 3).bind fun v2 => (f_R_piecesOf d v2 S).bind fun q3 => (if x2 = q3.1 then (some (x3, q3.2)) else (if q3.1 ≤ x2 then ((xgR q3.2 x3 2 4).bind fun v4 => b_R_numbered_51 d k4 (x2 - (q3.1 + 1)) v4 q3.2) else ((xgR q3.2 x3 2 3).bind fun v5 => b_R_numbered_51 d k4 x2 v5 q3.2))))
def l_R_numbered_4 (d : Nat) : Nat → (Int32 → Option Nat → xS → Option (Option Nat × xS))
  | 0 => fun _ _ _ => none
  | n + 1 => fun x2 x3 S => b_R_numbered_4 d (l_R_numbered_4 d n) x2 x3 S
def e_R_numbered (d : Nat) (p0 : Option Nat) (p1 : Int32) (S : xS) : Option (Option Nat × xS) := l_R_numbered_4 d xN p1 p0 S
def f_R_numbered : Nat → (Option Nat → Int32 → xS → Option (Option Nat × xS))
  | 0 => fun _ _ _ => none
  | d + 1 => fun p0 p1 S => e_R_numbered d p0 p1 S
def b_R_startOf_69 (d : Nat) (k7 : Int32 → Int32 → Option Nat → xS → Option (Int32 × xS)) (x2 : Int32) (x3 : Int32) (x4 : Option Nat) (S : xS) : Option (Int32 × xS) := k7 x2 x3 x4 S
def b_R_startOf_7 (d : Nat) (k7 : Int32 → Int32 → Option Nat → xS → Option (Int32 × xS)) (x2 : Int32) (x3 : Int32) (x4 : Option Nat) (S : xS) : Option (Int32 × xS) := xcase x4 (some (x2, S)) (fun _ => (xgR S x4 2 3).bind fun v2 => (f_R_piecesOf d v2 S).bind fun q3 => (if q3.1 < x3 then ((xgR q3.2 x4 2 3).bind fun v4 => (f_R_charactersOf d v4 q3.2).bind fun q5 => (xgI q5.2 x4 2 1).bind fun v6 => (xgR q5.2 x4 2 4).bind fun v7 => b_R_startOf_69 d k7 (x2 + (q5.1 + v6)) (x3 - (q3.1 + 1)) v7 q5.2) else ((xgR q3.2 x4 2 3).bind fun v8 => b_R_startOf_69 d k7 x2 x3 v8 q3.2)))
def l_R_startOf_7 (d : Nat) : Nat → (Int32 → Int32 → Option Nat → xS → Option (Int32 × xS))
  | 0 => fun _ _ _ _ => none
  | n + 1 => fun x2 x3 x4 S => b_R_startOf_7 d (l_R_startOf_7 d n) x2 x3 x4 S
def e_R_startOf (d : Nat) (p0 : Option Nat) (p1 : Int32) (S : xS) : Option (Int32 × xS) := l_R_startOf_7 d xN 0 p1 p0 S
def f_R_startOf : Nat → (Option Nat → Int32 → xS → Option (Int32 × xS))
  | 0 => fun _ _ _ => none
  | d + 1 => fun p0 p1 S => e_R_startOf d p0 p1 S
def b_R_sourceAt_32 (d : Nat) (y0 : Int32) (S : xS) : Option (Int32 × xS) := some (y0, S)
def e_R_sourceAt (d : Nat) (p0 : Option Nat) (p1 : Int32) (S : xS) : Option (Int32 × xS) := (f_R_orderAt d p0 p1 S).bind fun q1 => (f_R_numbered d p0 q1.1 q1.2).bind fun q2 => xcase q2.1 (b_R_sourceAt_32 d ((-1)) q2.2) (fun _ => (xgI q2.2 q2.1 2 0).bind fun v4 => (f_R_startOf d p0 q1.1 q2.2).bind fun q5 => b_R_sourceAt_32 d ((v4 + p1) - q5.1) q5.2)
def f_R_sourceAt : Nat → (Option Nat → Int32 → xS → Option (Int32 × xS))
  | 0 => fun _ _ _ => none
  | d + 1 => fun p0 p1 S => e_R_sourceAt d p0 p1 S
def b_R_tagAt_22 (d : Nat) (y0 : Int32) (S : xS) : Option (Int32 × xS) := some (y0, S)
def e_R_tagAt (d : Nat) (p0 : Option Nat) (p1 : Int32) (S : xS) : Option (Int32 × xS) := (f_R_orderAt d p0 p1 S).bind fun q1 => (f_R_numbered d p0 q1.1 q1.2).bind fun q2 => xcase q2.1 (b_R_tagAt_22 d 0 q2.2) (fun _ => (xgI q2.2 q2.1 2 2).bind fun v4 => b_R_tagAt_22 d v4 q2.2)
def f_R_tagAt : Nat → (Option Nat → Int32 → xS → Option (Int32 × xS))
  | 0 => fun _ _ _ => none
  | d + 1 => fun p0 p1 S => e_R_tagAt d p0 p1 S
def b_Y_meldsLeft_36 (d : Nat) (y0 : Int32) (S : xS) : Option (Int32 × xS) := some (y0, S)
def b_Y_meldsLeft_35 (d : Nat) (S : xS) : Option (Int32 × xS) := b_Y_meldsLeft_36 d 0 S
def e_Y_meldsLeft (d : Nat) (p0 : Option Nat) (p1 : Int32) (p2 : Int32) (p3 : Int32) (S : xS) : Option (Int32 × xS) := (if 1 ≤ p1 then ((f_R_sourceAt d p0 (p1 - 1) S).bind fun q1 => (if (q1.1 + 1) = p2 then ((f_R_tagAt d p0 (p1 - 1) q1.2).bind fun q2 => (if q2.1 = p3 then (b_Y_meldsLeft_36 d 1 q2.2) else (b_Y_meldsLeft_35 d q2.2))) else (b_Y_meldsLeft_35 d q1.2))) else (some (0, S)))
def f_Y_meldsLeft : Nat → (Option Nat → Int32 → Int32 → Int32 → xS → Option (Int32 × xS))
  | 0 => fun _ _ _ _ _ => none
  | d + 1 => fun p0 p1 p2 p3 S => e_Y_meldsLeft d p0 p1 p2 p3 S
def b_Y_meldsRight_35 (d : Nat) (y0 : Int32) (S : xS) : Option (Int32 × xS) := some (y0, S)
def b_Y_meldsRight_34 (d : Nat) (S : xS) : Option (Int32 × xS) := b_Y_meldsRight_35 d 0 S
def e_Y_meldsRight (d : Nat) (p0 : Option Nat) (p1 : Int32) (p2 : Int32) (p3 : Int32) (S : xS) : Option (Int32 × xS) := (f_R_charactersOf d p0 S).bind fun q1 => (if p1 < q1.1 then ((f_R_sourceAt d p0 p1 q1.2).bind fun q2 => (if (p2 + 1) = q2.1 then ((f_R_tagAt d p0 p1 q2.2).bind fun q3 => (if q3.1 = p3 then (b_Y_meldsRight_35 d 1 q3.2) else (b_Y_meldsRight_34 d q3.2))) else (b_Y_meldsRight_34 d q2.2))) else (some (0, q1.2)))
def f_Y_meldsRight : Nat → (Option Nat → Int32 → Int32 → Int32 → xS → Option (Int32 × xS))
  | 0 => fun _ _ _ _ _ => none
  | d + 1 => fun p0 p1 p2 p3 S => e_Y_meldsRight d p0 p1 p2 p3 S
def e_Y_afterPut (d : Nat) (p0 : Option Nat) (p1 : Int32) (p2 : Int32) (p3 : Int32) (p4 : Int32) (S : xS) : Option (Int32 × xS) := (f_Y_before d p0 p1 S).bind fun q1 => (f_Y_behind d p0 p1 q1.2).bind fun q2 => (f_Y_meldsLeft d p0 p1 p2 p4 q2.2).bind fun q3 => (f_Y_meldsRight d p0 p1 ((p2 + p3) - 1) p4 q3.2).bind fun q4 => some ((((q1.1 + 1) + q2.1) - q3.1) - q4.1, q4.2)
def f_Y_afterPut : Nat → (Option Nat → Int32 → Int32 → Int32 → Int32 → xS → Option (Int32 × xS))
  | 0 => fun _ _ _ _ _ _ => none
  | d + 1 => fun p0 p1 p2 p3 p4 S => e_Y_afterPut d p0 p1 p2 p3 p4 S
def b_T_firstOf_4 (d : Nat) (k4 : Option Nat → Option Nat → xS → Option (Option Nat × xS)) (x1 : Option Nat) (x2 : Option Nat) (S : xS) : Option (Option Nat × xS) := xcase x2 (some (x1, S)) (fun _ => (xgR S x2 2 3).bind fun v2 => k4 x2 v2 S)
def l_T_firstOf_4 (d : Nat) : Nat → (Option Nat → Option Nat → xS → Option (Option Nat × xS))
  | 0 => fun _ _ _ => none
  | n + 1 => fun x1 x2 S => b_T_firstOf_4 d (l_T_firstOf_4 d n) x1 x2 S
def e_T_firstOf (d : Nat) (p0 : Option Nat) (S : xS) : Option (Option Nat × xS) := l_T_firstOf_4 d xN none p0 S
def f_T_firstOf : Nat → (Option Nat → xS → Option (Option Nat × xS))
  | 0 => fun _ _ => none
  | d + 1 => fun p0 S => e_T_firstOf d p0 S
def e_T_giveBack (d : Nat) (p0 : Option Nat) (p1 : Option Nat) (S : xS) : Option (Unit × xS) := (xput S p1 2 3 (va_rf none)).bind fun S1 => (xgR S1 p0 4 0).bind fun v2 => (xput S1 p1 2 4 (va_rf v2)).bind fun S3 => (xput S3 p0 4 0 (va_rf p1)).bind fun S4 => some ((), S4)
def f_T_giveBack : Nat → (Option Nat → Option Nat → xS → Option (Unit × xS))
  | 0 => fun _ _ _ => none
  | d + 1 => fun p0 p1 S => e_T_giveBack d p0 p1 S
def b_R_heightOf_12 (d : Nat) (y0 : Int32) (S : xS) : Option (Int32 × xS) := some (y0, S)
def e_R_heightOf (d : Nat) (p0 : Option Nat) (S : xS) : Option (Int32 × xS) := xcase p0 (b_R_heightOf_12 d 0 S) (fun _ => (xgI S p0 2 5).bind fun v2 => b_R_heightOf_12 d v2 S)
def f_R_heightOf : Nat → (Option Nat → xS → Option (Int32 × xS))
  | 0 => fun _ _ => none
  | d + 1 => fun p0 S => e_R_heightOf d p0 S
def b_T_sum_79 (d : Nat) (x0 : Option Nat) (x1 : Int32) (x2 : Int32) (x3 : Int32) (S : xS) : Option (Unit × xS) := (xput S x0 2 5 (.int (x1 + 1))).bind fun S1 => (xput S1 x0 2 6 (.int x2)).bind fun S2 => (xput S2 x0 2 7 (.int x3)).bind fun S3 => some ((), S3)
def b_T_sum_42 (d : Nat) (x0 : Option Nat) (x1 : Int32) (x2 : Int32) (x3 : Int32) (S : xS) : Option (Unit × xS) := (xgR S x0 2 4).bind fun v1 => xcase v1 (b_T_sum_79 d x0 x1 x2 x3 S) (fun _ => (xgI S v1 2 5).bind fun v3 => (xgI S v1 2 6).bind fun v4 => (xgI S v1 2 7).bind fun v5 => b_T_sum_79 d x0 (xmax x1 v3) (x2 + v4) (x3 + v5) S)
def e_T_sum (d : Nat) (p0 : Option Nat) (S : xS) : Option (Unit × xS) := (xgI S p0 2 1).bind fun v1 => (xgR S p0 2 3).bind fun v2 => xcase v2 (b_T_sum_42 d p0 0 1 v1 S) (fun _ => (xgI S v2 2 5).bind fun v4 => (xgI S v2 2 6).bind fun v5 => (xgI S v2 2 7).bind fun v6 => b_T_sum_42 d p0 v4 (1 + v5) (v1 + v6) S)
def f_T_sum : Nat → (Option Nat → xS → Option (Unit × xS))
  | 0 => fun _ _ => none
  | d + 1 => fun p0 S => e_T_sum d p0 S
def e_T_raiseLeft (d : Nat) (p0 : Option Nat) (S : xS) : Option (Option Nat × xS) := (xgR S p0 2 3).bind fun v1 => xcase v1 (some (p0, S)) (fun _ => (xgR S v1 2 4).bind fun v3 => (xput S p0 2 3 (va_rf v3)).bind fun S4 => (xput S4 v1 2 4 (va_rf p0)).bind fun S5 => (f_T_sum d p0 S5).bind fun q6 => (f_T_sum d v1 q6.2).bind fun q7 => some (v1, q7.2))
def f_T_raiseLeft : Nat → (Option Nat → xS → Option (Option Nat × xS))
  | 0 => fun _ _ => none
  | d + 1 => fun p0 S => e_T_raiseLeft d p0 S
def e_T_raiseRight (d : Nat) (p0 : Option Nat) (S : xS) : Option (Option Nat × xS) := (xgR S p0 2 4).bind fun v1 => xcase v1 (some (p0, S)) (fun _ => (xgR S v1 2 3).bind fun v3 => (xput S p0 2 4 (va_rf v3)).bind fun S4 => (xput S4 v1 2 3 (va_rf p0)).bind fun S5 => (f_T_sum d p0 S5).bind fun q6 => (f_T_sum d v1 q6.2).bind fun q7 => some (v1, q7.2))
def f_T_raiseRight : Nat → (Option Nat → xS → Option (Option Nat × xS))
  | 0 => fun _ _ => none
  | d + 1 => fun p0 S => e_T_raiseRight d p0 S
def b_T_balance_102 (d : Nat) (x0 : Option Nat) (S : xS) : Option (Option Nat × xS) := some (x0, S)
def b_T_balance_97 (d : Nat) (x0 : Option Nat) (S : xS) : Option (Option Nat × xS) := (f_T_raiseRight d x0 S).bind fun q1 => some (q1.1, q1.2)
def b_T_balance_63 (d : Nat) (x0 : Option Nat) (x2 : Option Nat) (x3 : Int32) (S : xS) : Option (Option Nat × xS) := (if ((-1)) ≤ x3 then (b_T_balance_102 d x0 S) else (xcase x2 (b_T_balance_102 d x0 S) (fun _ => (xgR S x2 2 3).bind fun v2 => (f_R_heightOf d v2 S).bind fun q3 => (xgR q3.2 x2 2 4).bind fun v4 => (f_R_heightOf d v4 q3.2).bind fun q5 => (if q3.1 ≤ q5.1 then (b_T_balance_97 d x0 q5.2) else ((f_T_raiseLeft d x2 q5.2).bind fun q6 => (xput q6.2 x0 2 4 (va_rf q6.1)).bind fun S7 => b_T_balance_97 d x0 S7)))))
def b_T_balance_58 (d : Nat) (x0 : Option Nat) (S : xS) : Option (Option Nat × xS) := (f_T_raiseLeft d x0 S).bind fun q1 => some (q1.1, q1.2)
def e_T_balance (d : Nat) (p0 : Option Nat) (S : xS) : Option (Option Nat × xS) := (f_T_sum d p0 S).bind fun q1 => (xgR q1.2 p0 2 3).bind fun v2 => (xgR q1.2 p0 2 4).bind fun v3 => (f_R_heightOf d v2 q1.2).bind fun q4 => (f_R_heightOf d v3 q4.2).bind fun q5 => (if (q4.1 - q5.1) ≤ 1 then (b_T_balance_63 d p0 v3 (q4.1 - q5.1) q5.2) else (xcase v2 (b_T_balance_63 d p0 v3 (q4.1 - q5.1) q5.2) (fun _ => (xgR q5.2 v2 2 4).bind fun v7 => (f_R_heightOf d v7 q5.2).bind fun q8 => (xgR q8.2 v2 2 3).bind fun v9 => (f_R_heightOf d v9 q8.2).bind fun q10 => (if q8.1 ≤ q10.1 then (b_T_balance_58 d p0 q10.2) else ((f_T_raiseRight d v2 q10.2).bind fun q11 => (xput q11.2 p0 2 3 (va_rf q11.1)).bind fun S12 => b_T_balance_58 d p0 S12)))))
def f_T_balance : Nat → (Option Nat → xS → Option (Option Nat × xS))
  | 0 => fun _ _ => none
  | d + 1 => fun p0 S => e_T_balance d p0 S
def b_T_join_81 (d : Nat) (fr : Option Nat → Option Nat → Option Nat → Int32 → xS → Option (Option Nat × xS)) (x0 : Option Nat) (x1 : Option Nat) (x2 : Option Nat) (S : xS) : Option (Option Nat × xS) := (xput S x1 2 3 (va_rf x0)).bind fun S1 => (xput S1 x1 2 4 (va_rf x2)).bind fun S2 => (f_T_sum d x1 S2).bind fun q3 => some (x1, q3.2)
def b_T_join_46 (d : Nat) (fr : Option Nat → Option Nat → Option Nat → Int32 → xS → Option (Option Nat × xS)) (x0 : Option Nat) (x1 : Option Nat) (x2 : Option Nat) (x3 : Int32) (x4 : Int32) (S : xS) : Option (Option Nat × xS) := xcase x2 (b_T_join_81 d fr x0 x1 x2 S) (fun _ => (if ((-1)) ≤ x4 then (b_T_join_81 d fr x0 x1 x2 S) else (if x3 ≤ 0 then (b_T_join_81 d fr x0 x1 x2 S) else ((xgR S x2 2 3).bind fun v2 => (fr x0 x1 v2 (x3 - 1) S).bind fun q3 => (xput q3.2 x2 2 3 (va_rf q3.1)).bind fun S4 => (f_T_balance d x2 S4).bind fun q5 => some (q5.1, q5.2)))))
def e_T_join (d : Nat) (fr : Option Nat → Option Nat → Option Nat → Int32 → xS → Option (Option Nat × xS)) (p0 : Option Nat) (p1 : Option Nat) (p2 : Option Nat) (p3 : Int32) (S : xS) : Option (Option Nat × xS) := (f_R_heightOf d p0 S).bind fun q1 => (f_R_heightOf d p2 q1.2).bind fun q2 => xcase p0 (b_T_join_46 d fr p0 p1 p2 p3 (q1.1 - q2.1) q2.2) (fun _ => (if (q1.1 - q2.1) ≤ 1 then (b_T_join_46 d fr p0 p1 p2 p3 (q1.1 - q2.1) q2.2) else (if p3 ≤ 0 then (b_T_join_46 d fr p0 p1 p2 p3 (q1.1 - q2.1) q2.2) else ((xgR q2.2 p0 2 4).bind fun v4 => (fr v4 p1 p2 (p3 - 1) q2.2).bind fun q5 => (xput q5.2 p0 2 4 (va_rf q5.1)).bind fun S6 => (f_T_balance d p0 S6).bind fun q7 => some (q7.1, q7.2)))))
def f_T_join : Nat → (Option Nat → Option Nat → Option Nat → Int32 → xS → Option (Option Nat × xS))
  | 0 => fun _ _ _ _ _ => none
  | d + 1 => fun p0 p1 p2 p3 S => e_T_join d (f_T_join d) p0 p1 p2 p3 S
def b_T_lastOf_4 (d : Nat) (k4 : Option Nat → Option Nat → xS → Option (Option Nat × xS)) (x1 : Option Nat) (x2 : Option Nat) (S : xS) : Option (Option Nat × xS) := xcase x2 (some (x1, S)) (fun _ => (xgR S x2 2 4).bind fun v2 => k4 x2 v2 S)
def l_T_lastOf_4 (d : Nat) : Nat → (Option Nat → Option Nat → xS → Option (Option Nat × xS))
  | 0 => fun _ _ _ => none
  | n + 1 => fun x1 x2 S => b_T_lastOf_4 d (l_T_lastOf_4 d n) x1 x2 S
def e_T_lastOf (d : Nat) (p0 : Option Nat) (S : xS) : Option (Option Nat × xS) := l_T_lastOf_4 d xN none p0 S
def f_T_lastOf : Nat → (Option Nat → xS → Option (Option Nat × xS))
  | 0 => fun _ _ => none
  | d + 1 => fun p0 S => e_T_lastOf d p0 S
def b_T_withoutFirst_9 (d : Nat) (fr : Option Nat → Int32 → xS → Option (Option Nat × xS)) (x0 : Option Nat) (S : xS) : Option (Option Nat × xS) := some (x0, S)
def e_T_withoutFirst (d : Nat) (fr : Option Nat → Int32 → xS → Option (Option Nat × xS)) (p0 : Option Nat) (p1 : Int32) (S : xS) : Option (Option Nat × xS) := xcase p0 (b_T_withoutFirst_9 d fr p0 S) (fun _ => (if 1 ≤ p1 then ((xgR S p0 2 3).bind fun v2 => xcase v2 ((xgR S p0 2 4).bind fun v4 => some (v4, S)) (fun _ => (xgR S p0 2 3).bind fun v5 => (fr v5 (p1 - 1) S).bind fun q6 => (xput q6.2 p0 2 3 (va_rf q6.1)).bind fun S7 => (f_T_balance d p0 S7).bind fun q8 => some (q8.1, q8.2))) else (b_T_withoutFirst_9 d fr p0 S)))
def f_T_withoutFirst : Nat → (Option Nat → Int32 → xS → Option (Option Nat × xS))
  | 0 => fun _ _ _ => none
  | d + 1 => fun p0 p1 S => e_T_withoutFirst d (f_T_withoutFirst d) p0 p1 S
def b_T_withoutLast_9 (d : Nat) (fr : Option Nat → Int32 → xS → Option (Option Nat × xS)) (x0 : Option Nat) (S : xS) : Option (Option Nat × xS) := some (x0, S)
def e_T_withoutLast (d : Nat) (fr : Option Nat → Int32 → xS → Option (Option Nat × xS)) (p0 : Option Nat) (p1 : Int32) (S : xS) : Option (Option Nat × xS) := xcase p0 (b_T_withoutLast_9 d fr p0 S) (fun _ => (if 1 ≤ p1 then ((xgR S p0 2 4).bind fun v2 => xcase v2 ((xgR S p0 2 3).bind fun v4 => some (v4, S)) (fun _ => (xgR S p0 2 4).bind fun v5 => (fr v5 (p1 - 1) S).bind fun q6 => (xput q6.2 p0 2 4 (va_rf q6.1)).bind fun S7 => (f_T_balance d p0 S7).bind fun q8 => some (q8.1, q8.2))) else (b_T_withoutLast_9 d fr p0 S)))
def f_T_withoutLast : Nat → (Option Nat → Int32 → xS → Option (Option Nat × xS))
  | 0 => fun _ _ _ => none
  | d + 1 => fun p0 p1 S => e_T_withoutLast d (f_T_withoutLast d) p0 p1 S
def b_T_meet_84 (d : Nat) (x1 : Option Nat) (x3 : Option Nat) (x5 : Option Nat) (S : xS) : Option (Option Nat × xS) := (f_T_withoutLast d x1 40 S).bind fun q1 => (f_T_join d q1.1 x3 x5 40 q1.2).bind fun q2 => some (q2.1, q2.2)
def e_T_meet (d : Nat) (p0 : Option Nat) (p1 : Option Nat) (p2 : Option Nat) (S : xS) : Option (Option Nat × xS) := (f_T_lastOf d p1 S).bind fun q1 => (f_T_firstOf d p2 q1.2).bind fun q2 => xcase q1.1 (some (p2, q2.2)) (fun _ => xcase q2.1 (some (p1, q2.2)) (fun _ => (xgI q2.2 q1.1 2 0).bind fun v5 => (xgI q2.2 q1.1 2 1).bind fun v6 => (xgI q2.2 q2.1 2 0).bind fun v7 => (if (v5 + v6) = v7 then ((xgI q2.2 q1.1 2 2).bind fun v8 => (xgI q2.2 q2.1 2 2).bind fun v9 => (if v8 = v9 then ((f_T_withoutFirst d p2 40 q2.2).bind fun q10 => (xgI q10.2 q1.1 2 1).bind fun v11 => (xgI q10.2 q2.1 2 1).bind fun v12 => (xput q10.2 q1.1 2 1 (.int (v11 + v12))).bind fun S13 => (xobj S13 p0 4).bind fun _ => (f_T_giveBack d p0 q2.1 S13).bind fun q14 => b_T_meet_84 d p1 q1.1 q10.1 q14.2) else (b_T_meet_84 d p1 q1.1 p2 q2.2))) else (b_T_meet_84 d p1 q1.1 p2 q2.2))))
def f_T_meet : Nat → (Option Nat → Option Nat → Option Nat → xS → Option (Option Nat × xS))
  | 0 => fun _ _ _ _ => none
  | d + 1 => fun p0 p1 p2 S => e_T_meet d p0 p1 p2 S
def e_H_init (d : Nat) (p0 : Option Nat) (S : xS) : Option (Unit × xS) := xcase p0 none (fun _ => some ((), S))
def f_H_init : Nat → (Option Nat → xS → Option (Unit × xS))
  | 0 => fun _ _ => none
  | d + 1 => fun p0 S => e_H_init d p0 S
def e_N_init (d : Nat) (p0 : Option Nat) (S : xS) : Option (Unit × xS) := xcase p0 none (fun _ => some ((), S))
def f_N_init : Nat → (Option Nat → xS → Option (Unit × xS))
  | 0 => fun _ _ => none
  | d + 1 => fun p0 S => e_N_init d p0 S
def e_T_alone (d : Nat) (p0 : Option Nat) (S : xS) : Option (Option Nat × xS) := (xput S p0 2 3 (va_rf none)).bind fun S1 => (xput S1 p0 2 4 (va_rf none)).bind fun S2 => (f_T_sum d p0 S2).bind fun q3 => some (p0, q3.2)
def f_T_alone : Nat → (Option Nat → xS → Option (Option Nat × xS))
  | 0 => fun _ _ => none
  | d + 1 => fun p0 S => e_T_alone d p0 S
def b_T_take_32 (d : Nat) (x1 : Int32) (x2 : Int32) (x3 : Int32) (x4 : Option Nat) (S : xS) : Option (Option Nat × xS) := (xput S x4 2 0 (.int x1)).bind fun S1 => (xput S1 x4 2 1 (.int x2)).bind fun S2 => (xput S2 x4 2 2 (.int x3)).bind fun S3 => (f_T_alone d x4 S3).bind fun q4 => some (q4.1, q4.2)
def e_T_take (d : Nat) (p0 : Option Nat) (p1 : Int32) (p2 : Int32) (p3 : Int32) (S : xS) : Option (Option Nat × xS) := (xgR S p0 4 0).bind fun v1 => xcase v1 ((xnew S 2 [.int 0, .int 0, .int 0, .null, .null, .int 0, .int 0, .int 0]).bind fun q3 => (f_N_init d (some q3.1) q3.2).bind fun q4 => b_T_take_32 d p1 p2 p3 (some q3.1) q4.2) (fun _ => (xgR S v1 2 4).bind fun v5 => (xput S p0 4 0 (va_rf v5)).bind fun S6 => b_T_take_32 d p1 p2 p3 v1 S6)
def f_T_take : Nat → (Option Nat → Int32 → Int32 → Int32 → xS → Option (Option Nat × xS))
  | 0 => fun _ _ _ _ _ => none
  | d + 1 => fun p0 p1 p2 p3 S => e_T_take d p0 p1 p2 p3 S
def b_T_partInto_181 (d : Nat) (fr : Option Nat → Option Nat → Option Nat → Int32 → Int32 → xS → Option (Unit × xS)) (S : xS) : Option (Unit × xS) := some ((), S)
def b_T_partInto_10 (d : Nat) (fr : Option Nat → Option Nat → Option Nat → Int32 → Int32 → xS → Option (Unit × xS)) (x1 : Option Nat) (x2 : Option Nat) (S : xS) : Option (Unit × xS) := (xput S x1 1 0 (va_rf none)).bind fun S1 => (xput S1 x1 1 1 (va_rf x2)).bind fun S2 => some ((), S2)
def e_T_partInto (d : Nat) (fr : Option Nat → Option Nat → Option Nat → Int32 → Int32 → xS → Option (Unit × xS)) (p0 : Option Nat) (p1 : Option Nat) (p2 : Option Nat) (p3 : Int32) (p4 : Int32) (S : xS) : Option (Unit × xS) := xcase p2 (b_T_partInto_10 d fr p1 p2 S) (fun _ => (if 1 ≤ p4 then ((xgR S p2 2 3).bind fun v2 => (xgR S p2 2 4).bind fun v3 => (f_R_charactersOf d v2 S).bind fun q4 => (if 0 < (p3 - q4.1) then ((xgI q4.2 p2 2 1).bind fun v5 => (if (p3 - q4.1) < v5 then ((xgI q4.2 p2 2 0).bind fun v6 => (xgI q4.2 p2 2 1).bind fun v7 => (xgI q4.2 p2 2 2).bind fun v8 => (xobj q4.2 p0 4).bind fun _ => (f_T_take d p0 (v6 + (p3 - q4.1)) (v7 - (p3 - q4.1)) v8 q4.2).bind fun q9 => (xput q9.2 p2 2 1 (.int (p3 - q4.1))).bind fun S10 => (f_T_join d v2 p2 none 40 S10).bind fun q11 => (xput q11.2 p1 1 0 (va_rf q11.1)).bind fun S12 => (f_T_join d none q9.1 v3 40 S12).bind fun q13 => (xput q13.2 p1 1 1 (va_rf q13.1)).bind fun S14 => b_T_partInto_181 d fr S14) else ((xgI q4.2 p2 2 1).bind fun v15 => (xobj q4.2 p0 4).bind fun _ => (fr p0 p1 v3 ((p3 - q4.1) - v15) (p4 - 1) q4.2).bind fun q16 => (xgR q16.2 p1 1 0).bind fun v17 => (f_T_join d v2 p2 v17 40 q16.2).bind fun q18 => (xput q18.2 p1 1 0 (va_rf q18.1)).bind fun S19 => b_T_partInto_181 d fr S19))) else ((xobj q4.2 p0 4).bind fun _ => (fr p0 p1 v2 p3 (p4 - 1) q4.2).bind fun q20 => (xgR q20.2 p1 1 1).bind fun v21 => (f_T_join d v21 p2 v3 40 q20.2).bind fun q22 => (xput q22.2 p1 1 1 (va_rf q22.1)).bind fun S23 => b_T_partInto_181 d fr S23))) else (b_T_partInto_10 d fr p1 p2 S)))
def f_T_partInto : Nat → (Option Nat → Option Nat → Option Nat → Int32 → Int32 → xS → Option (Unit × xS))
  | 0 => fun _ _ _ _ _ _ => none
  | d + 1 => fun p0 p1 p2 p3 p4 S => e_T_partInto d (f_T_partInto d) p0 p1 p2 p3 p4 S
def e_T_part (d : Nat) (p0 : Option Nat) (p1 : Option Nat) (p2 : Int32) (S : xS) : Option (Option Nat × xS) := (xnew S 1 [.null, .null]).bind fun q1 => (f_H_init d (some q1.1) q1.2).bind fun q2 => (xobj q2.2 p0 4).bind fun _ => (f_T_partInto d p0 (some q1.1) p1 p2 40 q2.2).bind fun q3 => some (some q1.1, q3.2)
def f_T_part : Nat → (Option Nat → Option Nat → Int32 → xS → Option (Option Nat × xS))
  | 0 => fun _ _ _ _ => none
  | d + 1 => fun p0 p1 p2 S => e_T_part d p0 p1 p2 S
def b_P_put_27 (d : Nat) (S : xS) : Option ((Int32 ⊕ Nat) × xS) := xthrow d 2 S
def e_P_put (d : Nat) (p0 : Option Nat) (p1 : Int32) (p2 : Int32) (p3 : Int32) (p4 : Int32) (p5 : Int32) (S : xS) : Option ((Int32 ⊕ Nat) × xS) := (xobj S p0 0).bind fun _ => (f_P_demandEdge d p0 p1 p2 S).bind fun q1 => xtry q1.1 (fun v2 => (if p4 < 1 then (b_P_put_27 d q1.2) else (if p3 < 0 then (b_P_put_27 d q1.2) else ((xgI q1.2 p0 0 1).bind fun v3 => (if p3 ≤ (v3 - p4) then ((xobj q1.2 p0 0).bind fun _ => (f_P_rootOf d p0 p1 q1.2).bind fun q4 => (f_Y_afterPut d q4.1 p2 p3 p4 p5 q4.2).bind fun q5 => (f_R_piecesOf d q4.1 q5.2).bind fun q6 => (xobj q6.2 p0 0).bind fun _ => (f_P_demandRoom d p0 p4 (q5.1 - q6.1) q6.2).bind fun q7 => xtry q7.1 (fun v8 => (xgR q7.2 p0 0 3).bind fun v9 => (xobj q7.2 v9 4).bind fun _ => (f_T_part d v9 q4.1 p2 q7.2).bind fun q10 => (xgR q10.2 p0 0 3).bind fun v11 => (xobj q10.2 v11 4).bind fun _ => (f_T_take d v11 p3 p4 p5 q10.2).bind fun q12 => (xgR q12.2 p0 0 3).bind fun v13 => (xgR q12.2 p0 0 3).bind fun v14 => (xgR q12.2 q10.1 1 0).bind fun v15 => (xobj q12.2 v14 4).bind fun _ => (f_T_meet d v14 v15 q12.1 q12.2).bind fun q16 => (xgR q16.2 q10.1 1 1).bind fun v17 => (xobj q16.2 v13 4).bind fun _ => (f_T_meet d v13 q16.1 v17 q16.2).bind fun q18 => (xobj q18.2 p0 0).bind fun _ => (f_P_become d p0 p1 q18.1 q18.2).bind fun q19 => some (.inl q19.1, q19.2)) (fun e => some (.inr e, q7.2))) else (b_P_put_27 d q1.2)))))) (fun e => some (.inr e, q1.2))
def f_P_put : Nat → (Option Nat → Int32 → Int32 → Int32 → Int32 → Int32 → xS → Option ((Int32 ⊕ Nat) × xS))
  | 0 => fun _ _ _ _ _ _ _ => none
  | d + 1 => fun p0 p1 p2 p3 p4 p5 S => e_P_put d p0 p1 p2 p3 p4 p5 S
def b_P_demandFree_13 (d : Nat) (S : xS) : Option ((Unit ⊕ Nat) × xS) := xthrow d 0 S
def e_P_demandFree (d : Nat) (p0 : Option Nat) (p1 : Int32) (p2 : Int32) (S : xS) : Option ((Unit ⊕ Nat) × xS) := (if p1 = p2 then (b_P_demandFree_13 d S) else ((xobj S p0 0).bind fun _ => (f_P_rootOf d p0 p1 S).bind fun q1 => xcase q1.1 (some (.inl (), q1.2)) (fun _ => b_P_demandFree_13 d q1.2)))
def f_P_demandFree : Nat → (Option Nat → Int32 → Int32 → xS → Option ((Unit ⊕ Nat) × xS))
  | 0 => fun _ _ _ _ => none
  | d + 1 => fun p0 p1 p2 S => e_P_demandFree d p0 p1 p2 S
def b_P_demandRange_27 (d : Nat) (S : xS) : Option ((Unit ⊕ Nat) × xS) := xthrow d 2 S
def e_P_demandRange (d : Nat) (p0 : Option Nat) (p1 : Int32) (p2 : Int32) (p3 : Int32) (S : xS) : Option ((Unit ⊕ Nat) × xS) := (xobj S p0 0).bind fun _ => (f_P_demandText d p0 p1 S).bind fun q1 => xtry q1.1 (fun v2 => (if p3 < 0 then (b_P_demandRange_27 d q1.2) else (if p2 < 0 then (b_P_demandRange_27 d q1.2) else ((xobj q1.2 p0 0).bind fun _ => (f_P_rootOf d p0 p1 q1.2).bind fun q3 => (f_R_charactersOf d q3.1 q3.2).bind fun q4 => (if p2 ≤ (q4.1 - p3) then (some (.inl (), q4.2)) else (b_P_demandRange_27 d q4.2)))))) (fun e => some (.inr e, q1.2))
def f_P_demandRange : Nat → (Option Nat → Int32 → Int32 → Int32 → xS → Option ((Unit ⊕ Nat) × xS))
  | 0 => fun _ _ _ _ _ => none
  | d + 1 => fun p0 p1 p2 p3 S => e_P_demandRange d p0 p1 p2 p3 S
def e_Y_afterCut (d : Nat) (p0 : Option Nat) (p1 : Int32) (p2 : Int32) (S : xS) : Option (Int32 × xS) := (f_Y_before d p0 p1 S).bind fun q1 => (f_Y_behind d p0 (p1 + p2) q1.2).bind fun q2 => (f_R_charactersOf d p0 q2.2).bind fun q3 => (if (p1 + p2) < q3.1 then ((f_R_sourceAt d p0 (p1 + p2) q3.2).bind fun q4 => (f_R_tagAt d p0 (p1 + p2) q4.2).bind fun q5 => (f_Y_meldsLeft d p0 p1 q4.1 q5.1 q5.2).bind fun q6 => some ((q1.1 + q2.1) - q6.1, q6.2)) else (some (q1.1 + q2.1, q3.2)))
def f_Y_afterCut : Nat → (Option Nat → Int32 → Int32 → xS → Option (Int32 × xS))
  | 0 => fun _ _ _ _ => none
  | d + 1 => fun p0 p1 p2 S => e_Y_afterCut d p0 p1 p2 S
def b_Y_within_26 (d : Nat) (y0 : Int32) (S : xS) : Option (Int32 × xS) := some (y0, S)
def e_Y_within (d : Nat) (p0 : Option Nat) (p1 : Int32) (p2 : Int32) (S : xS) : Option (Int32 × xS) := (if 1 ≤ p2 then ((f_R_orderAt d p0 ((p1 + p2) - 1) S).bind fun q1 => (f_R_orderAt d p0 p1 q1.2).bind fun q2 => b_Y_within_26 d ((q1.1 - q2.1) + 1) q2.2) else (b_Y_within_26 d 0 S))
def f_Y_within : Nat → (Option Nat → Int32 → Int32 → xS → Option (Int32 × xS))
  | 0 => fun _ _ _ _ => none
  | d + 1 => fun p0 p1 p2 S => e_Y_within d p0 p1 p2 S
def e_P_cut (d : Nat) (p0 : Option Nat) (p1 : Int32) (p2 : Int32) (p3 : Int32) (p4 : Int32) (S : xS) : Option ((Int32 ⊕ Nat) × xS) := (xobj S p0 0).bind fun _ => (f_P_demandRange d p0 p1 p2 p3 S).bind fun q1 => xtry q1.1 (fun v2 => (xobj q1.2 p0 0).bind fun _ => (f_P_demandText d p0 p4 q1.2).bind fun q3 => xtry q3.1 (fun v4 => (xobj q3.2 p0 0).bind fun _ => (f_P_demandFree d p0 p4 p1 q3.2).bind fun q5 => xtry q5.1 (fun v6 => (xobj q5.2 p0 0).bind fun _ => (f_P_rootOf d p0 p1 q5.2).bind fun q7 => (f_Y_afterCut d q7.1 p2 p3 q7.2).bind fun q8 => (f_Y_within d q7.1 p2 p3 q8.2).bind fun q9 => (f_R_piecesOf d q7.1 q9.2).bind fun q10 => (xobj q10.2 p0 0).bind fun _ => (f_P_demandRoom d p0 0 ((q8.1 + q9.1) - q10.1) q10.2).bind fun q11 => xtry q11.1 (fun v12 => (xgR q11.2 p0 0 3).bind fun v13 => (xobj q11.2 v13 4).bind fun _ => (f_T_part d v13 q7.1 p2 q11.2).bind fun q14 => (xgR q14.2 p0 0 3).bind fun v15 => (xgR q14.2 q14.1 1 1).bind fun v16 => (xobj q14.2 v15 4).bind fun _ => (f_T_part d v15 v16 p3 q14.2).bind fun q17 => (xgR q17.2 q17.1 1 0).bind fun v18 => (xobj q17.2 p0 0).bind fun _ => (f_P_become d p0 p4 v18 q17.2).bind fun q19 => (xgR q19.2 p0 0 3).bind fun v20 => (xgR q19.2 q14.1 1 0).bind fun v21 => (xgR q19.2 q17.1 1 1).bind fun v22 => (xobj q19.2 v20 4).bind fun _ => (f_T_meet d v20 v21 v22 q19.2).bind fun q23 => (xobj q23.2 p0 0).bind fun _ => (f_P_become d p0 p1 q23.1 q23.2).bind fun q24 => some (.inl q24.1, q24.2)) (fun e => some (.inr e, q11.2))) (fun e => some (.inr e, q5.2))) (fun e => some (.inr e, q3.2))) (fun e => some (.inr e, q1.2))
def f_P_cut : Nat → (Option Nat → Int32 → Int32 → Int32 → Int32 → xS → Option ((Int32 ⊕ Nat) × xS))
  | 0 => fun _ _ _ _ _ _ => none
  | d + 1 => fun p0 p1 p2 p3 p4 S => e_P_cut d p0 p1 p2 p3 p4 S
def e_Y_afterPaste (d : Nat) (p0 : Option Nat) (p1 : Int32) (p2 : Option Nat) (S : xS) : Option (Int32 × xS) := xcase p2 ((f_R_piecesOf d p0 S).bind fun q2 => some (q2.1, q2.2)) (fun _ => (f_R_charactersOf d p2 S).bind fun q3 => (f_Y_before d p0 p1 q3.2).bind fun q4 => (f_R_piecesOf d p2 q4.2).bind fun q5 => (f_Y_behind d p0 p1 q5.2).bind fun q6 => (f_R_sourceAt d p2 0 q6.2).bind fun q7 => (f_R_tagAt d p2 0 q7.2).bind fun q8 => (f_Y_meldsLeft d p0 p1 q7.1 q8.1 q8.2).bind fun q9 => (f_R_sourceAt d p2 (q3.1 - 1) q9.2).bind fun q10 => (f_R_tagAt d p2 (q3.1 - 1) q10.2).bind fun q11 => (f_Y_meldsRight d p0 p1 q10.1 q11.1 q11.2).bind fun q12 => some ((((q4.1 + q5.1) + q6.1) - q9.1) - q12.1, q12.2))
def f_Y_afterPaste : Nat → (Option Nat → Int32 → Option Nat → xS → Option (Int32 × xS))
  | 0 => fun _ _ _ _ => none
  | d + 1 => fun p0 p1 p2 S => e_Y_afterPaste d p0 p1 p2 S
def e_P_paste (d : Nat) (p0 : Option Nat) (p1 : Int32) (p2 : Int32) (p3 : Int32) (S : xS) : Option ((Int32 ⊕ Nat) × xS) := (xobj S p0 0).bind fun _ => (f_P_demandEdge d p0 p1 p2 S).bind fun q1 => xtry q1.1 (fun v2 => (xobj q1.2 p0 0).bind fun _ => (f_P_demandText d p0 p3 q1.2).bind fun q3 => xtry q3.1 (fun v4 => (if p3 = p1 then (xthrow d 0 q3.2) else ((xobj q3.2 p0 0).bind fun _ => (f_P_rootOf d p0 p1 q3.2).bind fun q5 => (xobj q5.2 p0 0).bind fun _ => (f_P_rootOf d p0 p3 q5.2).bind fun q6 => (f_Y_afterPaste d q5.1 p2 q6.1 q6.2).bind fun q7 => (f_R_piecesOf d q5.1 q7.2).bind fun q8 => (f_R_piecesOf d q6.1 q8.2).bind fun q9 => (xobj q9.2 p0 0).bind fun _ => (f_P_demandRoom d p0 0 ((q7.1 - q8.1) - q9.1) q9.2).bind fun q10 => xtry q10.1 (fun v11 => (xgR q10.2 p0 0 3).bind fun v12 => (xobj q10.2 v12 4).bind fun _ => (f_T_part d v12 q5.1 p2 q10.2).bind fun q13 => (xobj q13.2 p0 0).bind fun _ => (f_P_become d p0 p3 none q13.2).bind fun q14 => (xgR q14.2 p0 0 3).bind fun v15 => (xgR q14.2 p0 0 3).bind fun v16 => (xgR q14.2 q13.1 1 0).bind fun v17 => (xobj q14.2 v16 4).bind fun _ => (f_T_meet d v16 v17 q6.1 q14.2).bind fun q18 => (xgR q18.2 q13.1 1 1).bind fun v19 => (xobj q18.2 v15 4).bind fun _ => (f_T_meet d v15 q18.1 v19 q18.2).bind fun q20 => (xobj q20.2 p0 0).bind fun _ => (f_P_become d p0 p1 q20.1 q20.2).bind fun q21 => some (.inl q21.1, q21.2)) (fun e => some (.inr e, q10.2))))) (fun e => some (.inr e, q3.2))) (fun e => some (.inr e, q1.2))
def f_P_paste : Nat → (Option Nat → Int32 → Int32 → Int32 → xS → Option ((Int32 ⊕ Nat) × xS))
  | 0 => fun _ _ _ _ _ => none
  | d + 1 => fun p0 p1 p2 p3 S => e_P_paste d p0 p1 p2 p3 S
def b_T_twin_118 (d : Nat) (fr : Option Nat → Option Nat → Int32 → Int32 → Int32 → xS → Option (Option Nat × xS)) (y0 : Option Nat) (S : xS) : Option (Option Nat × xS) := some (y0, S)
def b_T_twin_15 (d : Nat) (fr : Option Nat → Option Nat → Int32 → Int32 → Int32 → xS → Option (Option Nat × xS)) (S : xS) : Option (Option Nat × xS) := some (none, S)
def e_T_twin (d : Nat) (fr : Option Nat → Option Nat → Int32 → Int32 → Int32 → xS → Option (Option Nat × xS)) (p0 : Option Nat) (p1 : Option Nat) (p2 : Int32) (p3 : Int32) (p4 : Int32) (S : xS) : Option (Option Nat × xS) := xcase p1 (b_T_twin_15 d fr S) (fun _ => (if p3 ≤ p2 then (b_T_twin_15 d fr S) else (if 1 ≤ p4 then ((xgR S p1 2 3).bind fun v2 => (f_R_charactersOf d v2 S).bind fun q3 => (xgI q3.2 p1 2 1).bind fun v4 => (xgR q3.2 p1 2 3).bind fun v5 => (xobj q3.2 p0 4).bind fun _ => (fr p0 v5 p2 (xmin p3 q3.1) (p4 - 1) q3.2).bind fun q6 => (xgR q6.2 p1 2 4).bind fun v7 => (xobj q6.2 p0 4).bind fun _ => (fr p0 v7 ((xmax p2 (q3.1 + v4)) - (q3.1 + v4)) (p3 - (q3.1 + v4)) (p4 - 1) q6.2).bind fun q8 => (if (xmax p2 q3.1) < (xmin p3 (q3.1 + v4)) then ((xgI q8.2 p1 2 0).bind fun v9 => (xgI q8.2 p1 2 2).bind fun v10 => (xobj q8.2 p0 4).bind fun _ => (f_T_take d p0 ((v9 + (xmax p2 q3.1)) - q3.1) ((xmin p3 (q3.1 + v4)) - (xmax p2 q3.1)) v10 q8.2).bind fun q11 => (f_T_join d q6.1 q11.1 q8.1 40 q11.2).bind fun q12 => some (q12.1, q12.2)) else (xcase q6.1 (b_T_twin_118 d fr q8.1 q8.2) (fun _ => b_T_twin_118 d fr q6.1 q8.2)))) else (b_T_twin_15 d fr S))))
def f_T_twin : Nat → (Option Nat → Option Nat → Int32 → Int32 → Int32 → xS → Option (Option Nat × xS))
  | 0 => fun _ _ _ _ _ _ => none
  | d + 1 => fun p0 p1 p2 p3 p4 S => e_T_twin d (f_T_twin d) p0 p1 p2 p3 p4 S
def e_P_copy (d : Nat) (p0 : Option Nat) (p1 : Int32) (p2 : Int32) (p3 : Int32) (p4 : Int32) (S : xS) : Option ((Int32 ⊕ Nat) × xS) := (xobj S p0 0).bind fun _ => (f_P_demandRange d p0 p1 p2 p3 S).bind fun q1 => xtry q1.1 (fun v2 => (xobj q1.2 p0 0).bind fun _ => (f_P_demandText d p0 p4 q1.2).bind fun q3 => xtry q3.1 (fun v4 => (xobj q3.2 p0 0).bind fun _ => (f_P_demandFree d p0 p4 p1 q3.2).bind fun q5 => xtry q5.1 (fun v6 => (xobj q5.2 p0 0).bind fun _ => (f_P_rootOf d p0 p1 q5.2).bind fun q7 => (f_Y_within d q7.1 p2 p3 q7.2).bind fun q8 => (xobj q8.2 p0 0).bind fun _ => (f_P_demandRoom d p0 p3 q8.1 q8.2).bind fun q9 => xtry q9.1 (fun v10 => (xgR q9.2 p0 0 3).bind fun v11 => (xobj q9.2 v11 4).bind fun _ => (f_T_twin d v11 q7.1 p2 (p2 + p3) 40 q9.2).bind fun q12 => (xobj q12.2 p0 0).bind fun _ => (f_P_become d p0 p4 q12.1 q12.2).bind fun q13 => (xobj q13.2 p0 0).bind fun _ => (f_P_rootOf d p0 p4 q13.2).bind fun q14 => (f_R_piecesOf d q14.1 q14.2).bind fun q15 => some (.inl q15.1, q15.2)) (fun e => some (.inr e, q9.2))) (fun e => some (.inr e, q5.2))) (fun e => some (.inr e, q3.2))) (fun e => some (.inr e, q1.2))
def f_P_copy : Nat → (Option Nat → Int32 → Int32 → Int32 → Int32 → xS → Option ((Int32 ⊕ Nat) × xS))
  | 0 => fun _ _ _ _ _ _ => none
  | d + 1 => fun p0 p1 p2 p3 p4 S => e_P_copy d p0 p1 p2 p3 p4 S
def e_Y_tagged (d : Nat) (p0 : Int32) (p1 : Int32) (p2 : Int32) (S : xS) : Option (Int32 × xS) := some ((p0 &&& (p1 ^^^ ((-1)))) ||| (p2 &&& p1), S)
def f_Y_tagged : Nat → (Int32 → Int32 → Int32 → xS → Option (Int32 × xS))
  | 0 => fun _ _ _ _ => none
  | d + 1 => fun p0 p1 p2 S => e_Y_tagged d p0 p1 p2 S
def b_Y_withinTagged_107 (d : Nat) (k35 : Option Nat → Int32 → Int32 → Int32 → Int32 → Option Nat → Int32 → xS → Option (Int32 × xS)) (x0 : Option Nat) (x3 : Int32) (x4 : Int32) (x6 : Int32) (x7 : Int32) (x9 : Int32) (x10 : Option Nat) (S : xS) : Option (Int32 × xS) := k35 x0 x3 x4 x6 x7 x10 (x9 + 1) S
def b_Y_withinTagged_104 (d : Nat) (k35 : Option Nat → Int32 → Int32 → Int32 → Int32 → Option Nat → Int32 → xS → Option (Int32 × xS)) (x0 : Option Nat) (x3 : Int32) (x4 : Int32) (x6 : Int32) (x7 : Int32) (x9 : Int32) (x10 : Option Nat) (S : xS) : Option (Int32 × xS) := b_Y_withinTagged_107 d k35 x0 x3 x4 x6 (x7 + 1) x9 x10 S
def b_Y_withinTagged_35 (d : Nat) (k35 : Option Nat → Int32 → Int32 → Int32 → Int32 → Option Nat → Int32 → xS → Option (Int32 × xS)) (x0 : Option Nat) (x3 : Int32) (x4 : Int32) (x6 : Int32) (x7 : Int32) (x8 : Option Nat) (x9 : Int32) (S : xS) : Option (Int32 × xS) := (if x6 < x9 then (some (x7, S)) else ((f_R_numbered d x0 x9 S).bind fun q1 => xcase x8 (b_Y_withinTagged_104 d k35 x0 x3 x4 x6 x7 x9 q1.1 q1.2) (fun _ => xcase q1.1 (b_Y_withinTagged_104 d k35 x0 x3 x4 x6 x7 x9 q1.1 q1.2) (fun _ => (xgI q1.2 x8 2 0).bind fun v4 => (xgI q1.2 x8 2 1).bind fun v5 => (xgI q1.2 q1.1 2 0).bind fun v6 => (if (v4 + v5) = v6 then ((xgI q1.2 x8 2 2).bind fun v7 => (f_Y_tagged d v7 x3 x4 q1.2).bind fun q8 => (xgI q8.2 q1.1 2 2).bind fun v9 => (f_Y_tagged d v9 x3 x4 q8.2).bind fun q10 => (if q8.1 = q10.1 then (b_Y_withinTagged_107 d k35 x0 x3 x4 x6 x7 x9 q1.1 q10.2) else (b_Y_withinTagged_104 d k35 x0 x3 x4 x6 x7 x9 q1.1 q10.2))) else (b_Y_withinTagged_104 d k35 x0 x3 x4 x6 x7 x9 q1.1 q1.2))))))
def l_Y_withinTagged_35 (d : Nat) : Nat → (Option Nat → Int32 → Int32 → Int32 → Int32 → Option Nat → Int32 → xS → Option (Int32 × xS))
  | 0 => fun _ _ _ _ _ _ _ _ => none
  | n + 1 => fun x0 x3 x4 x6 x7 x8 x9 S => b_Y_withinTagged_35 d (l_Y_withinTagged_35 d n) x0 x3 x4 x6 x7 x8 x9 S
def e_Y_withinTagged (d : Nat) (p0 : Option Nat) (p1 : Int32) (p2 : Int32) (p3 : Int32) (p4 : Int32) (S : xS) : Option (Int32 × xS) := (f_R_orderAt d p0 p1 S).bind fun q1 => (f_R_orderAt d p0 ((p1 + p2) - 1) q1.2).bind fun q2 => (f_R_numbered d p0 q1.1 q2.2).bind fun q3 => l_Y_withinTagged_35 d xN p0 p3 p4 q2.1 1 q3.1 (q1.1 + 1) q3.2
def f_Y_withinTagged : Nat → (Option Nat → Int32 → Int32 → Int32 → Int32 → xS → Option (Int32 × xS))
  | 0 => fun _ _ _ _ _ _ => none
  | d + 1 => fun p0 p1 p2 p3 p4 S => e_Y_withinTagged d p0 p1 p2 p3 p4 S
def e_Y_afterTag (d : Nat) (p0 : Option Nat) (p1 : Int32) (p2 : Int32) (p3 : Int32) (p4 : Int32) (S : xS) : Option (Int32 × xS) := (if 1 ≤ p2 then ((f_R_tagAt d p0 p1 S).bind fun q1 => (f_Y_tagged d q1.1 p3 p4 q1.2).bind fun q2 => (f_R_tagAt d p0 ((p1 + p2) - 1) q2.2).bind fun q3 => (f_Y_tagged d q3.1 p3 p4 q3.2).bind fun q4 => (f_Y_before d p0 p1 q4.2).bind fun q5 => (f_Y_withinTagged d p0 p1 p2 p3 p4 q5.2).bind fun q6 => (f_Y_behind d p0 (p1 + p2) q6.2).bind fun q7 => (f_R_sourceAt d p0 p1 q7.2).bind fun q8 => (f_Y_meldsLeft d p0 p1 q8.1 q2.1 q8.2).bind fun q9 => (f_R_sourceAt d p0 ((p1 + p2) - 1) q9.2).bind fun q10 => (f_Y_meldsRight d p0 (p1 + p2) q10.1 q4.1 q10.2).bind fun q11 => some ((((q5.1 + q6.1) + q7.1) - q9.1) - q11.1, q11.2)) else ((f_R_piecesOf d p0 S).bind fun q12 => some (q12.1, q12.2)))
def f_Y_afterTag : Nat → (Option Nat → Int32 → Int32 → Int32 → Int32 → xS → Option (Int32 × xS))
  | 0 => fun _ _ _ _ _ _ => none
  | d + 1 => fun p0 p1 p2 p3 p4 S => e_Y_afterTag d p0 p1 p2 p3 p4 S
def b_T_retag_10 (d : Nat) (fr : Option Nat → Option Nat → Int32 → Int32 → Int32 → xS → Option (Option Nat × xS)) (x1 : Option Nat) (S : xS) : Option (Option Nat × xS) := some (x1, S)
def e_T_retag (d : Nat) (fr : Option Nat → Option Nat → Int32 → Int32 → Int32 → xS → Option (Option Nat × xS)) (p0 : Option Nat) (p1 : Option Nat) (p2 : Int32) (p3 : Int32) (p4 : Int32) (S : xS) : Option (Option Nat × xS) := xcase p1 (b_T_retag_10 d fr p1 S) (fun _ => (if 1 ≤ p4 then ((xgR S p1 2 3).bind fun v2 => (xobj S p0 4).bind fun _ => (fr p0 v2 p2 p3 (p4 - 1) S).bind fun q3 => (xgR q3.2 p1 2 4).bind fun v4 => (xobj q3.2 p0 4).bind fun _ => (fr p0 v4 p2 p3 (p4 - 1) q3.2).bind fun q5 => (xgI q5.2 p1 2 2).bind fun v6 => (f_Y_tagged d v6 p2 p3 q5.2).bind fun q7 => (xput q7.2 p1 2 2 (.int q7.1)).bind fun S8 => (f_T_alone d p1 S8).bind fun q9 => (xobj q9.2 p0 4).bind fun _ => (f_T_meet d p0 q3.1 q9.1 q9.2).bind fun q10 => (xobj q10.2 p0 4).bind fun _ => (f_T_meet d p0 q10.1 q5.1 q10.2).bind fun q11 => some (q11.1, q11.2)) else (b_T_retag_10 d fr p1 S)))
def f_T_retag : Nat → (Option Nat → Option Nat → Int32 → Int32 → Int32 → xS → Option (Option Nat × xS))
  | 0 => fun _ _ _ _ _ _ => none
  | d + 1 => fun p0 p1 p2 p3 p4 S => e_T_retag d (f_T_retag d) p0 p1 p2 p3 p4 S
def e_P_tag (d : Nat) (p0 : Option Nat) (p1 : Int32) (p2 : Int32) (p3 : Int32) (p4 : Int32) (p5 : Int32) (S : xS) : Option ((Int32 ⊕ Nat) × xS) := (xobj S p0 0).bind fun _ => (f_P_demandRange d p0 p1 p2 p3 S).bind fun q1 => xtry q1.1 (fun v2 => (xobj q1.2 p0 0).bind fun _ => (f_P_rootOf d p0 p1 q1.2).bind fun q3 => (f_Y_afterTag d q3.1 p2 p3 p4 p5 q3.2).bind fun q4 => (f_R_piecesOf d q3.1 q4.2).bind fun q5 => (xobj q5.2 p0 0).bind fun _ => (f_P_demandRoom d p0 0 (q4.1 - q5.1) q5.2).bind fun q6 => xtry q6.1 (fun v7 => (xgR q6.2 p0 0 3).bind fun v8 => (xobj q6.2 v8 4).bind fun _ => (f_T_part d v8 q3.1 p2 q6.2).bind fun q9 => (xgR q9.2 p0 0 3).bind fun v10 => (xgR q9.2 q9.1 1 1).bind fun v11 => (xobj q9.2 v10 4).bind fun _ => (f_T_part d v10 v11 p3 q9.2).bind fun q12 => (xgR q12.2 p0 0 3).bind fun v13 => (xgR q12.2 q12.1 1 0).bind fun v14 => (xobj q12.2 v13 4).bind fun _ => (f_T_retag d v13 v14 p4 p5 40 q12.2).bind fun q15 => (xgR q15.2 p0 0 3).bind fun v16 => (xgR q15.2 p0 0 3).bind fun v17 => (xgR q15.2 q9.1 1 0).bind fun v18 => (xobj q15.2 v17 4).bind fun _ => (f_T_meet d v17 v18 q15.1 q15.2).bind fun q19 => (xgR q19.2 q12.1 1 1).bind fun v20 => (xobj q19.2 v16 4).bind fun _ => (f_T_meet d v16 q19.1 v20 q19.2).bind fun q21 => (xobj q21.2 p0 0).bind fun _ => (f_P_become d p0 p1 q21.1 q21.2).bind fun q22 => (xobj q22.2 p0 0).bind fun _ => (f_P_rootOf d p0 p1 q22.2).bind fun q23 => (f_R_piecesOf d q23.1 q23.2).bind fun q24 => some (.inl q24.1, q24.2)) (fun e => some (.inr e, q6.2))) (fun e => some (.inr e, q1.2))
def f_P_tag : Nat → (Option Nat → Int32 → Int32 → Int32 → Int32 → Int32 → xS → Option ((Int32 ⊕ Nat) × xS))
  | 0 => fun _ _ _ _ _ _ _ => none
  | d + 1 => fun p0 p1 p2 p3 p4 p5 S => e_P_tag d p0 p1 p2 p3 p4 p5 S
def b_T_giveBackAll_9 (d : Nat) (fr : Option Nat → Option Nat → Int32 → xS → Option (Unit × xS)) (S : xS) : Option (Unit × xS) := some ((), S)
def e_T_giveBackAll (d : Nat) (fr : Option Nat → Option Nat → Int32 → xS → Option (Unit × xS)) (p0 : Option Nat) (p1 : Option Nat) (p2 : Int32) (S : xS) : Option (Unit × xS) := xcase p1 (b_T_giveBackAll_9 d fr S) (fun _ => (if 1 ≤ p2 then ((xgR S p1 2 3).bind fun v2 => (xobj S p0 4).bind fun _ => (fr p0 v2 (p2 - 1) S).bind fun q3 => (xgR q3.2 p1 2 4).bind fun v4 => (xobj q3.2 p0 4).bind fun _ => (fr p0 v4 (p2 - 1) q3.2).bind fun q5 => (xobj q5.2 p0 4).bind fun _ => (f_T_giveBack d p0 p1 q5.2).bind fun q6 => some ((), q6.2)) else (b_T_giveBackAll_9 d fr S)))
def f_T_giveBackAll : Nat → (Option Nat → Option Nat → Int32 → xS → Option (Unit × xS))
  | 0 => fun _ _ _ _ => none
  | d + 1 => fun p0 p1 p2 S => e_T_giveBackAll d (f_T_giveBackAll d) p0 p1 p2 S
def e_P_wipe (d : Nat) (p0 : Option Nat) (p1 : Int32) (S : xS) : Option ((Int32 ⊕ Nat) × xS) := (xobj S p0 0).bind fun _ => (f_P_demandText d p0 p1 S).bind fun q1 => xtry q1.1 (fun v2 => (xobj q1.2 p0 0).bind fun _ => (f_P_rootOf d p0 p1 q1.2).bind fun q3 => (f_R_charactersOf d q3.1 q3.2).bind fun q4 => (xobj q4.2 p0 0).bind fun _ => (f_P_become d p0 p1 none q4.2).bind fun q5 => (xgR q5.2 p0 0 3).bind fun v6 => (xobj q5.2 v6 4).bind fun _ => (f_T_giveBackAll d v6 q3.1 40 q5.2).bind fun q7 => some (.inl q4.1, q7.2)) (fun e => some (.inr e, q1.2))
def f_P_wipe : Nat → (Option Nat → Int32 → xS → Option ((Int32 ⊕ Nat) × xS))
  | 0 => fun _ _ _ => none
  | d + 1 => fun p0 p1 S => e_P_wipe d p0 p1 S
def b_P_length_20 (d : Nat) (y0 : Int32) (S : xS) : Option (Int32 × xS) := some (y0, S)
def e_P_length (d : Nat) (p0 : Option Nat) (p1 : Int32) (S : xS) : Option (Int32 × xS) := (xobj S p0 0).bind fun _ => (f_P_isText d p0 p1 S).bind fun q1 => (if q1.1 = 0 then (b_P_length_20 d ((-1)) q1.2) else ((xobj q1.2 p0 0).bind fun _ => (f_P_rootOf d p0 p1 q1.2).bind fun q2 => (f_R_charactersOf d q2.1 q2.2).bind fun q3 => b_P_length_20 d q3.1 q3.2))
def f_P_length : Nat → (Option Nat → Int32 → xS → Option (Int32 × xS))
  | 0 => fun _ _ _ => none
  | d + 1 => fun p0 p1 S => e_P_length d p0 p1 S
def b_P_byteAt_35 (d : Nat) (y0 : Int32) (S : xS) : Option (Int32 × xS) := some (y0, S)
def b_P_byteAt_21 (d : Nat) (S : xS) : Option (Int32 × xS) := b_P_byteAt_35 d 0 S
def e_P_byteAt (d : Nat) (p0 : Option Nat) (p1 : Int32) (S : xS) : Option (Int32 × xS) := (if p1 < 0 then (b_P_byteAt_21 d S) else ((xgI S p0 0 1).bind fun v1 => (if v1 ≤ p1 then (b_P_byteAt_21 d S) else ((xgR S p0 0 0).bind fun v2 => (xlen S v2 0).bind fun v3 => (if p1 < v3 then ((xgR S p0 0 0).bind fun v4 => (xldI S v4 0 p1).bind fun v5 => b_P_byteAt_35 d (v5 &&& 255) S) else (b_P_byteAt_21 d S))))))
def f_P_byteAt : Nat → (Option Nat → Int32 → xS → Option (Int32 × xS))
  | 0 => fun _ _ _ => none
  | d + 1 => fun p0 p1 S => e_P_byteAt d p0 p1 S
def b_P_look_25 (d : Nat) (S : xS) : Option ((Int32 ⊕ Nat) × xS) := xthrow d 2 S
def e_P_look (d : Nat) (p0 : Option Nat) (p1 : Int32) (p2 : Int32) (p3 : Int32) (S : xS) : Option ((Int32 ⊕ Nat) × xS) := (xobj S p0 0).bind fun _ => (f_P_demandText d p0 p1 S).bind fun q1 => xtry q1.1 (fun v2 => (xobj q1.2 p0 0).bind fun _ => (f_P_rootOf d p0 p1 q1.2).bind fun q3 => (if p2 < 0 then (b_P_look_25 d q3.2) else ((f_R_charactersOf d q3.1 q3.2).bind fun q4 => (if p2 < q4.1 then (if p3 = 0 then ((f_R_sourceAt d q3.1 p2 q4.2).bind fun q5 => (xobj q5.2 p0 0).bind fun _ => (f_P_byteAt d p0 q5.1 q5.2).bind fun q6 => some (.inl q6.1, q6.2)) else if p3 = 1 then ((f_R_sourceAt d q3.1 p2 q4.2).bind fun q7 => some (.inl q7.1, q7.2)) else if p3 = 2 then ((f_R_tagAt d q3.1 p2 q4.2).bind fun q8 => some (.inl q8.1, q8.2)) else if p3 = 3 then ((f_R_orderAt d q3.1 p2 q4.2).bind fun q9 => some (.inl q9.1, q9.2)) else (xthrow d 0 q4.2)) else (b_P_look_25 d q4.2))))) (fun e => some (.inr e, q1.2))
def f_P_look : Nat → (Option Nat → Int32 → Int32 → Int32 → xS → Option ((Int32 ⊕ Nat) × xS))
  | 0 => fun _ _ _ _ _ => none
  | d + 1 => fun p0 p1 p2 p3 S => e_P_look d p0 p1 p2 p3 S
def e_P_piece (d : Nat) (p0 : Option Nat) (p1 : Int32) (p2 : Int32) (p3 : Int32) (S : xS) : Option ((Int32 ⊕ Nat) × xS) := (xobj S p0 0).bind fun _ => (f_P_demandText d p0 p1 S).bind fun q1 => xtry q1.1 (fun v2 => (xobj q1.2 p0 0).bind fun _ => (f_P_rootOf d p0 p1 q1.2).bind fun q3 => (f_R_numbered d q3.1 p2 q3.2).bind fun q4 => xcase q4.1 (xthrow d 2 q4.2) (fun _ => (if p3 = 0 then ((f_R_startOf d q3.1 p2 q4.2).bind fun q6 => some (.inl q6.1, q6.2)) else if p3 = 1 then ((xgI q4.2 q4.1 2 0).bind fun v7 => some (.inl v7, q4.2)) else if p3 = 2 then ((xgI q4.2 q4.1 2 1).bind fun v8 => some (.inl v8, q4.2)) else if p3 = 3 then ((xgI q4.2 q4.1 2 2).bind fun v9 => some (.inl v9, q4.2)) else (xthrow d 0 q4.2)))) (fun e => some (.inr e, q1.2))
def f_P_piece : Nat → (Option Nat → Int32 → Int32 → Int32 → xS → Option ((Int32 ⊕ Nat) × xS))
  | 0 => fun _ _ _ _ _ => none
  | d + 1 => fun p0 p1 p2 p3 S => e_P_piece d p0 p1 p2 p3 S
def e_D_init (d : Nat) (p0 : Option Nat) (p1 : Option Nat) (p2 : Int32) (S : xS) : Option (Unit × xS) := xcase p0 none (fun _ => (xput S p0 3 0 (va_rf p1)).bind fun S1 => (f_R_orderAt d p1 p2 S1).bind fun q2 => (xput q2.2 p0 3 1 (.int q2.1)).bind fun S3 => (xgI S3 p0 3 1).bind fun v4 => (f_R_numbered d p1 v4 S3).bind fun q5 => (xput q5.2 p0 3 2 (va_rf q5.1)).bind fun S6 => (xgI S6 p0 3 1).bind fun v7 => (f_R_startOf d p1 v7 S6).bind fun q8 => (xput q8.2 p0 3 3 (.int (p2 - q8.1))).bind fun S9 => some ((), S9))
def f_D_init : Nat → (Option Nat → Option Nat → Int32 → xS → Option (Unit × xS))
  | 0 => fun _ _ _ _ => none
  | d + 1 => fun p0 p1 p2 S => e_D_init d p0 p1 p2 S
def b_D_nextSource_76 (d : Nat) (x1 : Int32) (S : xS) : Option (Int32 × xS) := some (x1, S)
def e_D_nextSource (d : Nat) (p0 : Option Nat) (S : xS) : Option (Int32 × xS) := (xgR S p0 3 2).bind fun v1 => xcase v1 (some ((-1), S)) (fun _ => (xgR S p0 3 2).bind fun v3 => (xgI S v3 2 0).bind fun v4 => (xgI S p0 3 3).bind fun v5 => (xgI S p0 3 3).bind fun v6 => (xput S p0 3 3 (.int (v6 + 1))).bind fun S7 => (xgI S7 p0 3 3).bind fun v8 => (xgR S7 p0 3 2).bind fun v9 => (xgI S7 v9 2 1).bind fun v10 => (if v8 < v10 then (b_D_nextSource_76 d (v4 + v5) S7) else ((xgI S7 p0 3 1).bind fun v11 => (xput S7 p0 3 1 (.int (v11 + 1))).bind fun S12 => (xgR S12 p0 3 0).bind fun v13 => (xgI S12 p0 3 1).bind fun v14 => (f_R_numbered d v13 v14 S12).bind fun q15 => (xput q15.2 p0 3 2 (va_rf q15.1)).bind fun S16 => (xput S16 p0 3 3 (.int 0)).bind fun S17 => b_D_nextSource_76 d (v4 + v5) S17)))
def f_D_nextSource : Nat → (Option Nat → xS → Option (Int32 × xS))
  | 0 => fun _ _ => none
  | d + 1 => fun p0 S => e_D_nextSource d p0 S
def b_P_find_35 (d : Nat) (k35 : Option Nat → Int32 → Int32 → Option Nat → Int32 → xS → Option ((Int32 ⊕ Nat) × xS)) (x0 : Option Nat) (x3 : Int32) (x5 : Int32) (x6 : Option Nat) (x7 : Int32) (S : xS) : Option ((Int32 ⊕ Nat) × xS) := (if x5 ≤ x7 then (some (.inl ((-1)), S)) else ((xobj S x6 3).bind fun _ => (f_D_nextSource d x6 S).bind fun q1 => (xobj q1.2 x0 0).bind fun _ => (f_P_byteAt d x0 q1.1 q1.2).bind fun q2 => (if q2.1 = x3 then (some (.inl x7, q2.2)) else (k35 x0 x3 x5 x6 (x7 + 1) q2.2))))
def l_P_find_35 (d : Nat) : Nat → (Option Nat → Int32 → Int32 → Option Nat → Int32 → xS → Option ((Int32 ⊕ Nat) × xS))
  | 0 => fun _ _ _ _ _ _ => none
  | n + 1 => fun x0 x3 x5 x6 x7 S => b_P_find_35 d (l_P_find_35 d n) x0 x3 x5 x6 x7 S
def e_P_find (d : Nat) (p0 : Option Nat) (p1 : Int32) (p2 : Int32) (p3 : Int32) (S : xS) : Option ((Int32 ⊕ Nat) × xS) := (xobj S p0 0).bind fun _ => (f_P_demandEdge d p0 p1 p2 S).bind fun q1 => xtry q1.1 (fun v2 => (xobj q1.2 p0 0).bind fun _ => (f_P_rootOf d p0 p1 q1.2).bind fun q3 => (f_R_charactersOf d q3.1 q3.2).bind fun q4 => (xnew q4.2 3 [.null, .int 0, .null, .int 0]).bind fun q5 => (f_D_init d (some q5.1) q3.1 p2 q5.2).bind fun q6 => l_P_find_35 d xN p0 p3 q4.1 (some q5.1) p2 q6.2) (fun e => some (.inr e, q1.2))
def f_P_find : Nat → (Option Nat → Int32 → Int32 → Int32 → xS → Option ((Int32 ⊕ Nat) × xS))
  | 0 => fun _ _ _ _ _ => none
  | d + 1 => fun p0 p1 p2 p3 S => e_P_find d p0 p1 p2 p3 S
def b_P_differ_63 (d : Nat) (k63 : Option Nat → Int32 → Option Nat → Option Nat → Int32 → xS → Option ((Int32 ⊕ Nat) × xS)) (x0 : Option Nat) (x3 : Int32) (x4 : Option Nat) (x5 : Option Nat) (x6 : Int32) (S : xS) : Option ((Int32 ⊕ Nat) × xS) := (if x3 ≤ x6 then (some (.inl ((-1)), S)) else ((xobj S x4 3).bind fun _ => (f_D_nextSource d x4 S).bind fun q1 => (xobj q1.2 x0 0).bind fun _ => (f_P_byteAt d x0 q1.1 q1.2).bind fun q2 => (xobj q2.2 x5 3).bind fun _ => (f_D_nextSource d x5 q2.2).bind fun q3 => (xobj q3.2 x0 0).bind fun _ => (f_P_byteAt d x0 q3.1 q3.2).bind fun q4 => (if q2.1 = q4.1 then (k63 x0 x3 x4 x5 (x6 + 1) q4.2) else (some (.inl x6, q4.2)))))
def l_P_differ_63 (d : Nat) : Nat → (Option Nat → Int32 → Option Nat → Option Nat → Int32 → xS → Option ((Int32 ⊕ Nat) × xS))
  | 0 => fun _ _ _ _ _ _ => none
  | n + 1 => fun x0 x3 x4 x5 x6 S => b_P_differ_63 d (l_P_differ_63 d n) x0 x3 x4 x5 x6 S
def e_P_differ (d : Nat) (p0 : Option Nat) (p1 : Int32) (p2 : Int32) (S : xS) : Option ((Int32 ⊕ Nat) × xS) := (xobj S p0 0).bind fun _ => (f_P_demandText d p0 p1 S).bind fun q1 => xtry q1.1 (fun v2 => (xobj q1.2 p0 0).bind fun _ => (f_P_demandText d p0 p2 q1.2).bind fun q3 => xtry q3.1 (fun v4 => (xobj q3.2 p0 0).bind fun _ => (f_P_rootOf d p0 p1 q3.2).bind fun q5 => (f_R_charactersOf d q5.1 q5.2).bind fun q6 => (xobj q6.2 p0 0).bind fun _ => (f_P_rootOf d p0 p2 q6.2).bind fun q7 => (f_R_charactersOf d q7.1 q7.2).bind fun q8 => (xnew q8.2 3 [.null, .int 0, .null, .int 0]).bind fun q9 => (xobj q9.2 p0 0).bind fun _ => (f_P_rootOf d p0 p1 q9.2).bind fun q10 => (f_D_init d (some q9.1) q10.1 0 q10.2).bind fun q11 => (xnew q11.2 3 [.null, .int 0, .null, .int 0]).bind fun q12 => (xobj q12.2 p0 0).bind fun _ => (f_P_rootOf d p0 p2 q12.2).bind fun q13 => (f_D_init d (some q12.1) q13.1 0 q13.2).bind fun q14 => l_P_differ_63 d xN p0 (xmax q6.1 q8.1) (some q9.1) (some q12.1) 0 q14.2) (fun e => some (.inr e, q3.2))) (fun e => some (.inr e, q1.2))
def f_P_differ : Nat → (Option Nat → Int32 → Int32 → xS → Option ((Int32 ⊕ Nat) × xS))
  | 0 => fun _ _ _ _ => none
  | d + 1 => fun p0 p1 p2 S => e_P_differ d p0 p1 p2 S
def b_R_isShallow_43 (d : Nat) (y0 : Int32) (S : xS) : Option (Int32 × xS) := (if y0 = 0 ∨ y0 = 1 then some (y0, S) else none)
def b_R_isShallow_42 (d : Nat) (S : xS) : Option (Int32 × xS) := b_R_isShallow_43 d 0 S
def e_R_isShallow (d : Nat) (p0 : Option Nat) (S : xS) : Option (Int32 × xS) := (f_R_heightOf d p0 S).bind fun q1 => (if 2 < q1.1 then ((f_R_piecesOf d p0 q1.2).bind fun q2 => (if 40 < q1.1 then (b_R_isShallow_42 d q2.2) else (if 0 < (lg_cmp (((1 : Int64)) <<< ((q1.1 - 2).toInt64 &&& 63)) ((q2.1.toInt64 + ((1 : Int64))) * (q2.1.toInt64 + ((1 : Int64))))) then (b_R_isShallow_42 d q2.2) else (b_R_isShallow_43 d 1 q2.2)))) else (if 1 = 0 ∨ 1 = 1 then some (1, q1.2) else none))
def f_R_isShallow : Nat → (Option Nat → xS → Option (Int32 × xS))
  | 0 => fun _ _ => none
  | d + 1 => fun p0 S => e_R_isShallow d p0 S
def b_P_allShallow_10 (d : Nat) (k10 : Option Nat → Int32 → Int32 → xS → Option (Int32 × xS)) (x1 : Option Nat) (x2 : Int32) (x3 : Int32) (S : xS) : Option (Int32 × xS) := (if x2 ≤ x3 then (if 1 = 0 ∨ 1 = 1 then some (1, S) else none) else ((xldR S x1 2 x3).bind fun v1 => (f_R_isShallow d v1 S).bind fun q2 => (if q2.1 = 0 then (if 0 = 0 ∨ 0 = 1 then some (0, q2.2) else none) else (k10 x1 x2 (x3 + 1) q2.2))))
def l_P_allShallow_10 (d : Nat) : Nat → (Option Nat → Int32 → Int32 → xS → Option (Int32 × xS))
  | 0 => fun _ _ _ _ => none
  | n + 1 => fun x1 x2 x3 S => b_P_allShallow_10 d (l_P_allShallow_10 d n) x1 x2 x3 S
def e_P_allShallow (d : Nat) (p0 : Option Nat) (S : xS) : Option (Int32 × xS) := (xgR S p0 0 2).bind fun v1 => (xlen S v1 2).bind fun v2 => l_P_allShallow_10 d xN v1 v2 0 S
def f_P_allShallow : Nat → (Option Nat → xS → Option (Int32 × xS))
  | 0 => fun _ _ => none
  | d + 1 => fun p0 S => e_P_allShallow d p0 S
def b_P_count_59 (d : Nat) (y0 : Int32) (S : xS) : Option (Int32 × xS) := some (y0, S)
def e_P_count (d : Nat) (p0 : Option Nat) (p1 : Int32) (S : xS) : Option (Int32 × xS) := (if p1 = 0 then ((xgI S p0 0 1).bind fun v1 => some (v1, S)) else if p1 = 1 then ((xobj S p0 0).bind fun _ => (f_P_charactersInAll d p0 S).bind fun q2 => some (q2.1, q2.2)) else if p1 = 2 then ((xobj S p0 0).bind fun _ => (f_P_piecesInAll d p0 S).bind fun q3 => some (q3.1, q3.2)) else if p1 = 3 then ((xobj S p0 0).bind fun _ => (f_P_allShallow d p0 S).bind fun q4 => (if q4.1 = 0 then (b_P_count_59 d 0 q4.2) else (b_P_count_59 d 1 q4.2))) else (some ((-1), S)))
def f_P_count : Nat → (Option Nat → Int32 → xS → Option (Int32 × xS))
  | 0 => fun _ _ _ => none
  | d + 1 => fun p0 p1 S => e_P_count d p0 p1 S
def e_M_init (d : Nat) (p0 : Option Nat) (S : xS) : Option (Unit × xS) := xcase p0 none (fun _ => (xnewa S 3 2048 (.inl (fun _ => 0))).bind fun q1 => (xput q1.2 p0 5 2 (va_rf (some q1.1))).bind fun S2 => (xnewa S2 3 17 (.inl (fun _ => 0))).bind fun q3 => (xput q3.2 p0 5 3 (va_rf (some q3.1))).bind fun S4 => (xnewa S4 3 4096 (.inl (fun _ => 0))).bind fun q5 => (xput q5.2 p0 5 4 (va_rf (some q5.1))).bind fun S6 => (xnewa S6 3 4096 (.inl (fun _ => 0))).bind fun q7 => (xput q7.2 p0 5 5 (va_rf (some q7.1))).bind fun S8 => (xnewa S8 3 4096 (.inl (fun _ => 0))).bind fun q9 => (xput q9.2 p0 5 6 (va_rf (some q9.1))).bind fun S10 => (xnewa S10 3 4096 (.inl (fun _ => 0))).bind fun q11 => (xput q11.2 p0 5 7 (va_rf (some q11.1))).bind fun S12 => some ((), S12))
def f_M_init : Nat → (Option Nat → xS → Option (Unit × xS))
  | 0 => fun _ _ => none
  | d + 1 => fun p0 S => e_M_init d p0 S
def e_M_thrown (d : Nat) (p0 : Option Nat) (S : xS) : Option (Int32 × xS) := (xgI S p0 5 0).bind fun v1 => some (v1, S)
def f_M_thrown : Nat → (Option Nat → xS → Option (Int32 × xS))
  | 0 => fun _ _ => none
  | d + 1 => fun p0 S => e_M_thrown d p0 S
def e_M_raise (d : Nat) (p0 : Option Nat) (p1 : Int32) (S : xS) : Option (Int32 × xS) := (xput S p0 5 0 (.int p1)).bind fun S1 => some (0, S1)
def f_M_raise : Nat → (Option Nat → Int32 → xS → Option (Int32 × xS))
  | 0 => fun _ _ _ => none
  | d + 1 => fun p0 p1 S => e_M_raise d p0 p1 S
def b_M_isText_15 (d : Nat) (y0 : Int32) (S : xS) : Option (Int32 × xS) := (if y0 = 0 ∨ y0 = 1 then some (y0, S) else none)
def b_M_isText_14 (d : Nat) (S : xS) : Option (Int32 × xS) := b_M_isText_15 d 0 S
def e_M_isText (d : Nat) (p0 : Int32) (S : xS) : Option (Int32 × xS) := (if p0 < 0 then (b_M_isText_14 d S) else (if 16 ≤ p0 then (b_M_isText_14 d S) else (b_M_isText_15 d 1 S)))
def f_M_isText : Nat → (Int32 → xS → Option (Int32 × xS))
  | 0 => fun _ _ => none
  | d + 1 => fun p0 S => e_M_isText d p0 S
def e_M_size (d : Nat) (p0 : Option Nat) (p1 : Int32) (S : xS) : Option (Int32 × xS) := (xgR S p0 5 3).bind fun v1 => (xldI S v1 3 (p1 + 1)).bind fun v2 => (xgR S p0 5 3).bind fun v3 => (xldI S v3 3 p1).bind fun v4 => some (v2 - v4, S)
def f_M_size : Nat → (Option Nat → Int32 → xS → Option (Int32 × xS))
  | 0 => fun _ _ _ => none
  | d + 1 => fun p0 p1 S => e_M_size d p0 p1 S
def b_M_isPlace_25 (d : Nat) (y0 : Int32) (S : xS) : Option (Int32 × xS) := (if y0 = 0 ∨ y0 = 1 then some (y0, S) else none)
def b_M_isPlace_24 (d : Nat) (S : xS) : Option (Int32 × xS) := b_M_isPlace_25 d 0 S
def e_M_isPlace (d : Nat) (p0 : Option Nat) (p1 : Int32) (p2 : Int32) (S : xS) : Option (Int32 × xS) := (f_M_isText d p1 S).bind fun q1 => (if q1.1 = 0 then (b_M_isPlace_24 d q1.2) else (if p2 < 0 then (b_M_isPlace_24 d q1.2) else ((xobj q1.2 p0 5).bind fun _ => (f_M_size d p0 p1 q1.2).bind fun q2 => (if q2.1 < p2 then (b_M_isPlace_24 d q2.2) else (b_M_isPlace_25 d 1 q2.2)))))
def f_M_isPlace : Nat → (Option Nat → Int32 → Int32 → xS → Option (Int32 × xS))
  | 0 => fun _ _ _ _ => none
  | d + 1 => fun p0 p1 p2 S => e_M_isPlace d p0 p1 p2 S
def b_M_isRange_29 (d : Nat) (y0 : Int32) (S : xS) : Option (Int32 × xS) := (if y0 = 0 ∨ y0 = 1 then some (y0, S) else none)
def b_M_isRange_28 (d : Nat) (S : xS) : Option (Int32 × xS) := b_M_isRange_29 d 0 S
def e_M_isRange (d : Nat) (p0 : Option Nat) (p1 : Int32) (p2 : Int32) (p3 : Int32) (S : xS) : Option (Int32 × xS) := (xobj S p0 5).bind fun _ => (f_M_isPlace d p0 p1 p2 S).bind fun q1 => (if q1.1 = 0 then (b_M_isRange_28 d q1.2) else (if p3 < 0 then (b_M_isRange_28 d q1.2) else ((xobj q1.2 p0 5).bind fun _ => (f_M_size d p0 p1 q1.2).bind fun q2 => (if (q2.1 - p2) < p3 then (b_M_isRange_28 d q2.2) else (b_M_isRange_29 d 1 q2.2)))))
def f_M_isRange : Nat → (Option Nat → Int32 → Int32 → Int32 → xS → Option (Int32 × xS))
  | 0 => fun _ _ _ _ _ => none
  | d + 1 => fun p0 p1 p2 p3 S => e_M_isRange d p0 p1 p2 p3 S
def b_M_write_78 (d : Nat) (k78 : Option Nat → Int64 → Int32 → Int32 → xS → Option (Int32 × xS)) (x0 : Option Nat) (x1 : Int64) (x3 : Int32) (x4 : Int32) (S : xS) : Option (Int32 × xS) := (if x3 ≤ x4 then ((xgI S x0 5 1).bind fun v1 => (xput S x0 5 1 (.int (v1 + x3))).bind fun S2 => (xgI S2 x0 5 1).bind fun v3 => some (v3 - x3, S2)) else ((xgR S x0 5 2).bind fun v4 => (xgI S x0 5 1).bind fun v5 => (xstI S v4 3 (v5 + x4) (((x1 >>> ((8 * x4).toInt64 &&& 63)) &&& ((255 : Int64))).toInt32)).bind fun S6 => k78 x0 x1 x3 (x4 + 1) S6))
def l_M_write_78 (d : Nat) : Nat → (Option Nat → Int64 → Int32 → Int32 → xS → Option (Int32 × xS))
  | 0 => fun _ _ _ _ _ => none
  | n + 1 => fun x0 x1 x3 x4 S => b_M_write_78 d (l_M_write_78 d n) x0 x1 x3 x4 S
def b_M_write_57 (d : Nat) (x0 : Option Nat) (x1 : Int64) (x3 : Int32) (S : xS) : Option (Int32 × xS) := (xgI S x0 5 1).bind fun v1 => (if (v1 + x3) ≤ 2048 then (l_M_write_78 d xN x0 x1 x3 0 S) else ((xobj S x0 5).bind fun _ => (f_M_raise d x0 2 S).bind fun q2 => some (q2.1, q2.2)))
def b_M_write_30 (d : Nat) (k30 : Option Nat → Int64 → Int32 → xS → Option (Int32 × xS)) (x0 : Option Nat) (x1 : Int64) (x3 : Int32) (S : xS) : Option (Int32 × xS) := (if 8 ≤ x3 then (b_M_write_57 d x0 x1 x3 S) else (if (lg_cmp ((x1 >>> ((8 * x3).toInt64 &&& 63)) &&& ((255 : Int64))) ((0 : Int64))) = 0 then (b_M_write_57 d x0 x1 x3 S) else (k30 x0 x1 (x3 + 1) S)))
def l_M_write_30 (d : Nat) : Nat → (Option Nat → Int64 → Int32 → xS → Option (Int32 × xS))
  | 0 => fun _ _ _ _ => none
  | n + 1 => fun x0 x1 x3 S => b_M_write_30 d (l_M_write_30 d n) x0 x1 x3 S
def b_M_write_16 (d : Nat) (x0 : Option Nat) (x1 : Int64) (y0 : Int32) (y1 : Option Nat) (S : xS) : Option (Int32 × xS) := (xput S y1 5 0 (.int y0)).bind fun S1 => (xgI S1 x0 5 0).bind fun v2 => (if v2 ≤ 0 then (l_M_write_30 d xN x0 x1 0 S1) else (some (0, S1)))
def e_M_write (d : Nat) (p0 : Option Nat) (p1 : Int64) (S : xS) : Option (Int32 × xS) := (if (lg_cmp (p1 &&& ((255 : Int64))) ((0 : Int64))) = 0 then (b_M_write_16 d p0 p1 1 p0 S) else (b_M_write_16 d p0 p1 0 p0 S))
def f_M_write : Nat → (Option Nat → Int64 → xS → Option (Int32 × xS))
  | 0 => fun _ _ _ => none
  | d + 1 => fun p0 p1 S => e_M_write d p0 p1 S
def b_M_keep_3 (d : Nat) (k3 : Option Nat → Int32 → Int32 → Int32 → Int32 → xS → Option (Unit × xS)) (x0 : Option Nat) (x1 : Int32) (x2 : Int32) (x3 : Int32) (x4 : Int32) (S : xS) : Option (Unit × xS) := (if x3 ≤ x4 then (some ((), S)) else ((xgR S x0 5 6).bind fun v1 => (xgR S x0 5 4).bind fun v2 => (xgR S x0 5 3).bind fun v3 => (xldI S v3 3 x1).bind fun v4 => (xldI S v2 3 ((v4 + x2) + x4)).bind fun v5 => (xstI S v1 3 x4 v5).bind fun S6 => (xgR S6 x0 5 7).bind fun v7 => (xgR S6 x0 5 5).bind fun v8 => (xgR S6 x0 5 3).bind fun v9 => (xldI S6 v9 3 x1).bind fun v10 => (xldI S6 v8 3 ((v10 + x2) + x4)).bind fun v11 => (xstI S6 v7 3 x4 v11).bind fun S12 => k3 x0 x1 x2 x3 (x4 + 1) S12))
def l_M_keep_3 (d : Nat) : Nat → (Option Nat → Int32 → Int32 → Int32 → Int32 → xS → Option (Unit × xS))
  | 0 => fun _ _ _ _ _ _ => none
  | n + 1 => fun x0 x1 x2 x3 x4 S => b_M_keep_3 d (l_M_keep_3 d n) x0 x1 x2 x3 x4 S
def e_M_keep (d : Nat) (p0 : Option Nat) (p1 : Int32) (p2 : Int32) (p3 : Int32) (S : xS) : Option (Unit × xS) := l_M_keep_3 d xN p0 p1 p2 p3 0 S
def f_M_keep : Nat → (Option Nat → Int32 → Int32 → Int32 → xS → Option (Unit × xS))
  | 0 => fun _ _ _ _ _ => none
  | d + 1 => fun p0 p1 p2 p3 S => e_M_keep d p0 p1 p2 p3 S
def b_M_remove_67 (d : Nat) (k67 : Option Nat → Int32 → Int32 → xS → Option (Unit × xS)) (x0 : Option Nat) (x3 : Int32) (x4 : Int32) (S : xS) : Option (Unit × xS) := (if 16 < x4 then (some ((), S)) else ((xgR S x0 5 3).bind fun v1 => (xldI S v1 3 x4).bind fun v2 => (xstI S v1 3 x4 (v2 - x3)).bind fun S3 => k67 x0 x3 (x4 + 1) S3))
def l_M_remove_67 (d : Nat) : Nat → (Option Nat → Int32 → Int32 → xS → Option (Unit × xS))
  | 0 => fun _ _ _ _ => none
  | n + 1 => fun x0 x3 x4 S => b_M_remove_67 d (l_M_remove_67 d n) x0 x3 x4 S
def b_M_remove_10 (d : Nat) (k10 : Option Nat → Int32 → Int32 → Int32 → xS → Option (Unit × xS)) (x0 : Option Nat) (x1 : Int32) (x3 : Int32) (x4 : Int32) (S : xS) : Option (Unit × xS) := (xgR S x0 5 3).bind fun v1 => (xldI S v1 3 16).bind fun v2 => (if (v2 - x3) ≤ x4 then (l_M_remove_67 d xN x0 x3 (x1 + 1) S) else ((xgR S x0 5 4).bind fun v3 => (xgR S x0 5 4).bind fun v4 => (xldI S v4 3 (x4 + x3)).bind fun v5 => (xstI S v3 3 x4 v5).bind fun S6 => (xgR S6 x0 5 5).bind fun v7 => (xgR S6 x0 5 5).bind fun v8 => (xldI S6 v8 3 (x4 + x3)).bind fun v9 => (xstI S6 v7 3 x4 v9).bind fun S10 => k10 x0 x1 x3 (x4 + 1) S10))
def l_M_remove_10 (d : Nat) : Nat → (Option Nat → Int32 → Int32 → Int32 → xS → Option (Unit × xS))
  | 0 => fun _ _ _ _ _ => none
  | n + 1 => fun x0 x1 x3 x4 S => b_M_remove_10 d (l_M_remove_10 d n) x0 x1 x3 x4 S
def e_M_remove (d : Nat) (p0 : Option Nat) (p1 : Int32) (p2 : Int32) (p3 : Int32) (S : xS) : Option (Unit × xS) := (xgR S p0 5 3).bind fun v1 => (xldI S v1 3 p1).bind fun v2 => l_M_remove_10 d xN p0 p1 p3 (v2 + p2) S
def f_M_remove : Nat → (Option Nat → Int32 → Int32 → Int32 → xS → Option (Unit × xS))
  | 0 => fun _ _ _ _ _ => none
  | d + 1 => fun p0 p1 p2 p3 S => e_M_remove d p0 p1 p2 p3 S
def b_M_insert_120 (d : Nat) (k120 : Option Nat → Int32 → Int32 → xS → Option (Unit × xS)) (x0 : Option Nat) (x3 : Int32) (x5 : Int32) (S : xS) : Option (Unit × xS) := (if 16 < x5 then (some ((), S)) else ((xgR S x0 5 3).bind fun v1 => (xldI S v1 3 x5).bind fun v2 => (xstI S v1 3 x5 (v2 + x3)).bind fun S3 => k120 x0 x3 (x5 + 1) S3))
def l_M_insert_120 (d : Nat) : Nat → (Option Nat → Int32 → Int32 → xS → Option (Unit × xS))
  | 0 => fun _ _ _ _ => none
  | n + 1 => fun x0 x3 x5 S => b_M_insert_120 d (l_M_insert_120 d n) x0 x3 x5 S
def b_M_insert_69 (d : Nat) (k69 : Option Nat → Int32 → Int32 → Int32 → Int32 → xS → Option (Unit × xS)) (x0 : Option Nat) (x1 : Int32) (x3 : Int32) (x4 : Int32) (x5 : Int32) (S : xS) : Option (Unit × xS) := (if x3 ≤ x5 then (l_M_insert_120 d xN x0 x3 (x1 + 1) S) else ((xgR S x0 5 4).bind fun v1 => (xgR S x0 5 6).bind fun v2 => (xldI S v2 3 x5).bind fun v3 => (xstI S v1 3 (x4 + x5) v3).bind fun S4 => (xgR S4 x0 5 5).bind fun v5 => (xgR S4 x0 5 7).bind fun v6 => (xldI S4 v6 3 x5).bind fun v7 => (xstI S4 v5 3 (x4 + x5) v7).bind fun S8 => k69 x0 x1 x3 x4 (x5 + 1) S8))
def l_M_insert_69 (d : Nat) : Nat → (Option Nat → Int32 → Int32 → Int32 → Int32 → xS → Option (Unit × xS))
  | 0 => fun _ _ _ _ _ _ => none
  | n + 1 => fun x0 x1 x3 x4 x5 S => b_M_insert_69 d (l_M_insert_69 d n) x0 x1 x3 x4 x5 S
def b_M_insert_21 (d : Nat) (k21 : Option Nat → Int32 → Int32 → Int32 → Int32 → xS → Option (Unit × xS)) (x0 : Option Nat) (x1 : Int32) (x3 : Int32) (x4 : Int32) (x5 : Int32) (S : xS) : Option (Unit × xS) := (if x5 < x4 then (l_M_insert_69 d xN x0 x1 x3 x4 0 S) else ((xgR S x0 5 4).bind fun v1 => (xgR S x0 5 4).bind fun v2 => (xldI S v2 3 x5).bind fun v3 => (xstI S v1 3 (x5 + x3) v3).bind fun S4 => (xgR S4 x0 5 5).bind fun v5 => (xgR S4 x0 5 5).bind fun v6 => (xldI S4 v6 3 x5).bind fun v7 => (xstI S4 v5 3 (x5 + x3) v7).bind fun S8 => k21 x0 x1 x3 x4 (x5 + (-1)) S8))
def l_M_insert_21 (d : Nat) : Nat → (Option Nat → Int32 → Int32 → Int32 → Int32 → xS → Option (Unit × xS))
  | 0 => fun _ _ _ _ _ _ => none
  | n + 1 => fun x0 x1 x3 x4 x5 S => b_M_insert_21 d (l_M_insert_21 d n) x0 x1 x3 x4 x5 S
def e_M_insert (d : Nat) (p0 : Option Nat) (p1 : Int32) (p2 : Int32) (p3 : Int32) (S : xS) : Option (Unit × xS) := (xgR S p0 5 3).bind fun v1 => (xldI S v1 3 p1).bind fun v2 => (xgR S p0 5 3).bind fun v3 => (xldI S v3 3 16).bind fun v4 => l_M_insert_21 d xN p0 p1 p3 (v2 + p2) (v4 - 1) S
def f_M_insert : Nat → (Option Nat → Int32 → Int32 → Int32 → xS → Option (Unit × xS))
  | 0 => fun _ _ _ _ _ => none
  | d + 1 => fun p0 p1 p2 p3 S => e_M_insert d p0 p1 p2 p3 S
def b_M_parts_51 (d : Nat) (y0 : Int32) (S : xS) : Option (Int32 × xS) := (if y0 = 0 ∨ y0 = 1 then some (y0, S) else none)
def b_M_parts_46 (d : Nat) (S : xS) : Option (Int32 × xS) := b_M_parts_51 d 1 S
def e_M_parts (d : Nat) (p0 : Option Nat) (p1 : Int32) (p2 : Int32) (S : xS) : Option (Int32 × xS) := (xgR S p0 5 3).bind fun v1 => (xldI S v1 3 p1).bind fun v2 => (if p2 = v2 then (b_M_parts_46 d S) else ((xgR S p0 5 4).bind fun v3 => (xldI S v3 3 p2).bind fun v4 => (xgR S p0 5 4).bind fun v5 => (xldI S v5 3 (p2 - 1)).bind fun v6 => (if v4 = (v6 + 1) then ((xgR S p0 5 5).bind fun v7 => (xldI S v7 3 p2).bind fun v8 => (xgR S p0 5 5).bind fun v9 => (xldI S v9 3 (p2 - 1)).bind fun v10 => (if v8 = v10 then (b_M_parts_51 d 0 S) else (b_M_parts_46 d S))) else (b_M_parts_46 d S))))
def f_M_parts : Nat → (Option Nat → Int32 → Int32 → xS → Option (Int32 × xS))
  | 0 => fun _ _ _ _ => none
  | d + 1 => fun p0 p1 p2 S => e_M_parts d p0 p1 p2 S
def b_M_pieces_36 (d : Nat) (k9 : Option Nat → Int32 → Int32 → Int32 → xS → Option (Int32 × xS)) (x0 : Option Nat) (x1 : Int32) (x3 : Int32) (y0 : Int32) (y1 : Int32) (S : xS) : Option (Int32 × xS) := k9 x0 x1 (y1 + y0) (x3 + 1) S
def b_M_pieces_9 (d : Nat) (k9 : Option Nat → Int32 → Int32 → Int32 → xS → Option (Int32 × xS)) (x0 : Option Nat) (x1 : Int32) (x2 : Int32) (x3 : Int32) (S : xS) : Option (Int32 × xS) := (xgR S x0 5 3).bind fun v1 => (xldI S v1 3 (x1 + 1)).bind fun v2 => (if v2 ≤ x3 then (some (x2, S)) else ((xobj S x0 5).bind fun _ => (f_M_parts d x0 x1 x3 S).bind fun q3 => (if q3.1 = 0 then (b_M_pieces_36 d k9 x0 x1 x3 0 x2 q3.2) else (b_M_pieces_36 d k9 x0 x1 x3 1 x2 q3.2))))
def l_M_pieces_9 (d : Nat) : Nat → (Option Nat → Int32 → Int32 → Int32 → xS → Option (Int32 × xS))
  | 0 => fun _ _ _ _ _ => none
  | n + 1 => fun x0 x1 x2 x3 S => b_M_pieces_9 d (l_M_pieces_9 d n) x0 x1 x2 x3 S
def e_M_pieces (d : Nat) (p0 : Option Nat) (p1 : Int32) (S : xS) : Option (Int32 × xS) := (xgR S p0 5 3).bind fun v1 => (xldI S v1 3 p1).bind fun v2 => l_M_pieces_9 d xN p0 p1 0 v2 S
def f_M_pieces : Nat → (Option Nat → Int32 → xS → Option (Int32 × xS))
  | 0 => fun _ _ _ => none
  | d + 1 => fun p0 p1 S => e_M_pieces d p0 p1 S
def b_M_allPieces_4 (d : Nat) (k4 : Option Nat → Int32 → Int32 → xS → Option (Int32 × xS)) (x0 : Option Nat) (x1 : Int32) (x2 : Int32) (S : xS) : Option (Int32 × xS) := (if 16 ≤ x2 then (some (x1, S)) else ((xobj S x0 5).bind fun _ => (f_M_pieces d x0 x2 S).bind fun q1 => k4 x0 (x1 + q1.1) (x2 + 1) q1.2))
def l_M_allPieces_4 (d : Nat) : Nat → (Option Nat → Int32 → Int32 → xS → Option (Int32 × xS))
  | 0 => fun _ _ _ _ => none
  | n + 1 => fun x0 x1 x2 S => b_M_allPieces_4 d (l_M_allPieces_4 d n) x0 x1 x2 S
def e_M_allPieces (d : Nat) (p0 : Option Nat) (S : xS) : Option (Int32 × xS) := l_M_allPieces_4 d xN p0 0 0 S
def f_M_allPieces : Nat → (Option Nat → xS → Option (Int32 × xS))
  | 0 => fun _ _ => none
  | d + 1 => fun p0 S => e_M_allPieces d p0 S
def b_M_put_73 (d : Nat) (k73 : Option Nat → Int32 → Int32 → Int32 → Int32 → Int32 → Int32 → xS → Option (Int32 × xS)) (x0 : Option Nat) (x1 : Int32) (x2 : Int32) (x3 : Int32) (x4 : Int32) (x5 : Int32) (x6 : Int32) (S : xS) : Option (Int32 × xS) := (if x4 ≤ x6 then ((xobj S x0 5).bind fun _ => (f_M_insert d x0 x1 x2 x4 S).bind fun q1 => (xobj q1.2 x0 5).bind fun _ => (f_M_allPieces d x0 q1.2).bind fun q2 => (if 1024 < q2.1 then ((xobj q2.2 x0 5).bind fun _ => (f_M_remove d x0 x1 x2 x4 q2.2).bind fun q3 => (xobj q3.2 x0 5).bind fun _ => (f_M_raise d x0 2 q3.2).bind fun q4 => some (q4.1, q4.2)) else ((xobj q2.2 x0 5).bind fun _ => (f_M_size d x0 x1 q2.2).bind fun q5 => some (q5.1, q5.2)))) else ((xgR S x0 5 6).bind fun v6 => (xstI S v6 3 x6 (x3 + x6)).bind fun S7 => (xgR S7 x0 5 7).bind fun v8 => (xstI S7 v8 3 x6 x5).bind fun S9 => k73 x0 x1 x2 x3 x4 x5 (x6 + 1) S9))
def l_M_put_73 (d : Nat) : Nat → (Option Nat → Int32 → Int32 → Int32 → Int32 → Int32 → Int32 → xS → Option (Int32 × xS))
  | 0 => fun _ _ _ _ _ _ _ _ => none
  | n + 1 => fun x0 x1 x2 x3 x4 x5 x6 S => b_M_put_73 d (l_M_put_73 d n) x0 x1 x2 x3 x4 x5 x6 S
def b_M_put_36 (d : Nat) (x0 : Option Nat) (x1 : Int32) (x2 : Int32) (x3 : Int32) (x4 : Int32) (x5 : Int32) (y0 : Int32) (y1 : Option Nat) (S : xS) : Option (Int32 × xS) := (xput S y1 5 0 (.int y0)).bind fun S1 => (xgI S1 x0 5 0).bind fun v2 => (if v2 ≤ 0 then ((xgR S1 x0 5 3).bind fun v3 => (xldI S1 v3 3 16).bind fun v4 => (if x4 ≤ (4096 - v4) then (l_M_put_73 d xN x0 x1 x2 x3 x4 x5 0 S1) else ((xobj S1 x0 5).bind fun _ => (f_M_raise d x0 2 S1).bind fun q5 => some (q5.1, q5.2)))) else (some (0, S1)))
def b_M_put_31 (d : Nat) (x0 : Option Nat) (x1 : Int32) (x2 : Int32) (x3 : Int32) (x4 : Int32) (x5 : Int32) (y0 : Option Nat) (S : xS) : Option (Int32 × xS) := b_M_put_36 d x0 x1 x2 x3 x4 x5 1 y0 S
def e_M_put (d : Nat) (p0 : Option Nat) (p1 : Int32) (p2 : Int32) (p3 : Int32) (p4 : Int32) (p5 : Int32) (S : xS) : Option (Int32 × xS) := (xobj S p0 5).bind fun _ => (f_M_isPlace d p0 p1 p2 S).bind fun q1 => (if q1.1 = 0 then (b_M_put_31 d p0 p1 p2 p3 p4 p5 p0 q1.2) else (if p3 < 0 then (b_M_put_31 d p0 p1 p2 p3 p4 p5 p0 q1.2) else (if p4 < 1 then (b_M_put_31 d p0 p1 p2 p3 p4 p5 p0 q1.2) else ((xgI q1.2 p0 5 1).bind fun v2 => (if p3 ≤ (v2 - p4) then (b_M_put_36 d p0 p1 p2 p3 p4 p5 0 p0 q1.2) else (b_M_put_31 d p0 p1 p2 p3 p4 p5 p0 q1.2))))))
def f_M_put : Nat → (Option Nat → Int32 → Int32 → Int32 → Int32 → Int32 → xS → Option (Int32 × xS))
  | 0 => fun _ _ _ _ _ _ _ => none
  | d + 1 => fun p0 p1 p2 p3 p4 p5 S => e_M_put d p0 p1 p2 p3 p4 p5 S
def b_M_cut_43 (d : Nat) (x0 : Option Nat) (x1 : Int32) (x2 : Int32) (x3 : Int32) (x4 : Int32) (y0 : Int32) (y1 : Option Nat) (S : xS) : Option (Int32 × xS) := (xput S y1 5 0 (.int y0)).bind fun S1 => (xgI S1 x0 5 0).bind fun v2 => (if v2 ≤ 0 then ((xobj S1 x0 5).bind fun _ => (f_M_keep d x0 x1 x2 x3 S1).bind fun q3 => (xobj q3.2 x0 5).bind fun _ => (f_M_remove d x0 x1 x2 x3 q3.2).bind fun q4 => (xobj q4.2 x0 5).bind fun _ => (f_M_insert d x0 x4 0 x3 q4.2).bind fun q5 => (xobj q5.2 x0 5).bind fun _ => (f_M_allPieces d x0 q5.2).bind fun q6 => (if 1024 < q6.1 then ((xobj q6.2 x0 5).bind fun _ => (f_M_keep d x0 x4 0 x3 q6.2).bind fun q7 => (xobj q7.2 x0 5).bind fun _ => (f_M_remove d x0 x4 0 x3 q7.2).bind fun q8 => (xobj q8.2 x0 5).bind fun _ => (f_M_insert d x0 x1 x2 x3 q8.2).bind fun q9 => (xobj q9.2 x0 5).bind fun _ => (f_M_raise d x0 3 q9.2).bind fun q10 => some (q10.1, q10.2)) else ((xobj q6.2 x0 5).bind fun _ => (f_M_size d x0 x1 q6.2).bind fun q11 => some (q11.1, q11.2)))) else (some (0, S1)))
def b_M_cut_38 (d : Nat) (x0 : Option Nat) (x1 : Int32) (x2 : Int32) (x3 : Int32) (x4 : Int32) (y0 : Option Nat) (S : xS) : Option (Int32 × xS) := b_M_cut_43 d x0 x1 x2 x3 x4 2 y0 S
def b_M_cut_19 (d : Nat) (x0 : Option Nat) (x1 : Int32) (x2 : Int32) (x3 : Int32) (x4 : Int32) (y0 : Option Nat) (S : xS) : Option (Int32 × xS) := b_M_cut_43 d x0 x1 x2 x3 x4 1 y0 S
def e_M_cut (d : Nat) (p0 : Option Nat) (p1 : Int32) (p2 : Int32) (p3 : Int32) (p4 : Int32) (S : xS) : Option (Int32 × xS) := (xobj S p0 5).bind fun _ => (f_M_isRange d p0 p1 p2 p3 S).bind fun q1 => (if q1.1 = 0 then (b_M_cut_19 d p0 p1 p2 p3 p4 p0 q1.2) else ((f_M_isText d p4 q1.2).bind fun q2 => (if q2.1 = 0 then (b_M_cut_19 d p0 p1 p2 p3 p4 p0 q2.2) else (if p4 = p1 then (b_M_cut_38 d p0 p1 p2 p3 p4 p0 q2.2) else ((xobj q2.2 p0 5).bind fun _ => (f_M_size d p0 p4 q2.2).bind fun q3 => (if q3.1 ≤ 0 then (b_M_cut_43 d p0 p1 p2 p3 p4 0 p0 q3.2) else (b_M_cut_38 d p0 p1 p2 p3 p4 p0 q3.2)))))))
def f_M_cut : Nat → (Option Nat → Int32 → Int32 → Int32 → Int32 → xS → Option (Int32 × xS))
  | 0 => fun _ _ _ _ _ _ => none
  | d + 1 => fun p0 p1 p2 p3 p4 S => e_M_cut d p0 p1 p2 p3 p4 S
def b_M_paste_31 (d : Nat) (x0 : Option Nat) (x1 : Int32) (x2 : Int32) (x3 : Int32) (y0 : Int32) (y1 : Option Nat) (S : xS) : Option (Int32 × xS) := (xput S y1 5 0 (.int y0)).bind fun S1 => (xgI S1 x0 5 0).bind fun v2 => (if v2 ≤ 0 then ((xobj S1 x0 5).bind fun _ => (f_M_size d x0 x3 S1).bind fun q3 => (xobj q3.2 x0 5).bind fun _ => (f_M_keep d x0 x3 0 q3.1 q3.2).bind fun q4 => (xobj q4.2 x0 5).bind fun _ => (f_M_remove d x0 x3 0 q3.1 q4.2).bind fun q5 => (xobj q5.2 x0 5).bind fun _ => (f_M_insert d x0 x1 x2 q3.1 q5.2).bind fun q6 => (xobj q6.2 x0 5).bind fun _ => (f_M_allPieces d x0 q6.2).bind fun q7 => (if 1024 < q7.1 then ((xobj q7.2 x0 5).bind fun _ => (f_M_keep d x0 x1 x2 q3.1 q7.2).bind fun q8 => (xobj q8.2 x0 5).bind fun _ => (f_M_remove d x0 x1 x2 q3.1 q8.2).bind fun q9 => (xobj q9.2 x0 5).bind fun _ => (f_M_insert d x0 x3 0 q3.1 q9.2).bind fun q10 => (xobj q10.2 x0 5).bind fun _ => (f_M_raise d x0 3 q10.2).bind fun q11 => some (q11.1, q11.2)) else ((xobj q7.2 x0 5).bind fun _ => (f_M_size d x0 x1 q7.2).bind fun q12 => some (q12.1, q12.2)))) else (some (0, S1)))
def b_M_paste_17 (d : Nat) (x0 : Option Nat) (x1 : Int32) (x2 : Int32) (x3 : Int32) (y0 : Option Nat) (S : xS) : Option (Int32 × xS) := b_M_paste_31 d x0 x1 x2 x3 1 y0 S
def e_M_paste (d : Nat) (p0 : Option Nat) (p1 : Int32) (p2 : Int32) (p3 : Int32) (S : xS) : Option (Int32 × xS) := (xobj S p0 5).bind fun _ => (f_M_isPlace d p0 p1 p2 S).bind fun q1 => (if q1.1 = 0 then (b_M_paste_17 d p0 p1 p2 p3 p0 q1.2) else ((f_M_isText d p3 q1.2).bind fun q2 => (if q2.1 = 0 then (b_M_paste_17 d p0 p1 p2 p3 p0 q2.2) else (if p3 = p1 then (b_M_paste_31 d p0 p1 p2 p3 2 p0 q2.2) else (b_M_paste_31 d p0 p1 p2 p3 0 p0 q2.2)))))
def f_M_paste : Nat → (Option Nat → Int32 → Int32 → Int32 → xS → Option (Int32 × xS))
  | 0 => fun _ _ _ _ _ => none
  | d + 1 => fun p0 p1 p2 p3 S => e_M_paste d p0 p1 p2 p3 S
def b_M_copy_43 (d : Nat) (x0 : Option Nat) (x1 : Int32) (x2 : Int32) (x3 : Int32) (x4 : Int32) (y0 : Int32) (y1 : Option Nat) (S : xS) : Option (Int32 × xS) := (xput S y1 5 0 (.int y0)).bind fun S1 => (xgI S1 x0 5 0).bind fun v2 => (if v2 ≤ 0 then ((xgR S1 x0 5 3).bind fun v3 => (xldI S1 v3 3 16).bind fun v4 => (if x3 ≤ (4096 - v4) then ((xobj S1 x0 5).bind fun _ => (f_M_keep d x0 x1 x2 x3 S1).bind fun q5 => (xobj q5.2 x0 5).bind fun _ => (f_M_insert d x0 x4 0 x3 q5.2).bind fun q6 => (xobj q6.2 x0 5).bind fun _ => (f_M_allPieces d x0 q6.2).bind fun q7 => (if 1024 < q7.1 then ((xobj q7.2 x0 5).bind fun _ => (f_M_remove d x0 x4 0 x3 q7.2).bind fun q8 => (xobj q8.2 x0 5).bind fun _ => (f_M_raise d x0 3 q8.2).bind fun q9 => some (q9.1, q9.2)) else ((xobj q7.2 x0 5).bind fun _ => (f_M_pieces d x0 x4 q7.2).bind fun q10 => some (q10.1, q10.2)))) else ((xobj S1 x0 5).bind fun _ => (f_M_raise d x0 3 S1).bind fun q11 => some (q11.1, q11.2)))) else (some (0, S1)))
def b_M_copy_38 (d : Nat) (x0 : Option Nat) (x1 : Int32) (x2 : Int32) (x3 : Int32) (x4 : Int32) (y0 : Option Nat) (S : xS) : Option (Int32 × xS) := b_M_copy_43 d x0 x1 x2 x3 x4 2 y0 S
def b_M_copy_19 (d : Nat) (x0 : Option Nat) (x1 : Int32) (x2 : Int32) (x3 : Int32) (x4 : Int32) (y0 : Option Nat) (S : xS) : Option (Int32 × xS) := b_M_copy_43 d x0 x1 x2 x3 x4 1 y0 S
def e_M_copy (d : Nat) (p0 : Option Nat) (p1 : Int32) (p2 : Int32) (p3 : Int32) (p4 : Int32) (S : xS) : Option (Int32 × xS) := (xobj S p0 5).bind fun _ => (f_M_isRange d p0 p1 p2 p3 S).bind fun q1 => (if q1.1 = 0 then (b_M_copy_19 d p0 p1 p2 p3 p4 p0 q1.2) else ((f_M_isText d p4 q1.2).bind fun q2 => (if q2.1 = 0 then (b_M_copy_19 d p0 p1 p2 p3 p4 p0 q2.2) else (if p4 = p1 then (b_M_copy_38 d p0 p1 p2 p3 p4 p0 q2.2) else ((xobj q2.2 p0 5).bind fun _ => (f_M_size d p0 p4 q2.2).bind fun q3 => (if q3.1 ≤ 0 then (b_M_copy_43 d p0 p1 p2 p3 p4 0 p0 q3.2) else (b_M_copy_38 d p0 p1 p2 p3 p4 p0 q3.2)))))))
def f_M_copy : Nat → (Option Nat → Int32 → Int32 → Int32 → Int32 → xS → Option (Int32 × xS))
  | 0 => fun _ _ _ _ _ _ => none
  | d + 1 => fun p0 p1 p2 p3 p4 S => e_M_copy d p0 p1 p2 p3 p4 S
def b_M_tag_110 (d : Nat) (k110 : Option Nat → Int32 → Int32 → Int32 → xS → Option (Int32 × xS)) (x0 : Option Nat) (x3 : Int32) (x6 : Int32) (x7 : Int32) (S : xS) : Option (Int32 × xS) := (if x3 ≤ x7 then ((xobj S x0 5).bind fun _ => (f_M_raise d x0 2 S).bind fun q1 => some (q1.1, q1.2)) else ((xgR S x0 5 5).bind fun v2 => (xgR S x0 5 7).bind fun v3 => (xldI S v3 3 x7).bind fun v4 => (xstI S v2 3 (x6 + x7) v4).bind fun S5 => k110 x0 x3 x6 (x7 + 1) S5))
def l_M_tag_110 (d : Nat) : Nat → (Option Nat → Int32 → Int32 → Int32 → xS → Option (Int32 × xS))
  | 0 => fun _ _ _ _ _ => none
  | n + 1 => fun x0 x3 x6 x7 S => b_M_tag_110 d (l_M_tag_110 d n) x0 x3 x6 x7 S
def b_M_tag_48 (d : Nat) (k48 : Option Nat → Int32 → Int32 → Int32 → Int32 → Int32 → Int32 → xS → Option (Int32 × xS)) (x0 : Option Nat) (x1 : Int32) (x3 : Int32) (x4 : Int32) (x5 : Int32) (x6 : Int32) (x7 : Int32) (S : xS) : Option (Int32 × xS) := (if x3 ≤ x7 then ((xobj S x0 5).bind fun _ => (f_M_allPieces d x0 S).bind fun q1 => (if 1024 < q1.1 then (l_M_tag_110 d xN x0 x3 x6 0 q1.2) else ((xobj q1.2 x0 5).bind fun _ => (f_M_pieces d x0 x1 q1.2).bind fun q2 => some (q2.1, q2.2)))) else ((xgR S x0 5 5).bind fun v3 => (xgR S x0 5 5).bind fun v4 => (xldI S v4 3 (x6 + x7)).bind fun v5 => (xstI S v3 3 (x6 + x7) ((v5 &&& (x4 ^^^ ((-1)))) ||| (x5 &&& x4))).bind fun S6 => k48 x0 x1 x3 x4 x5 x6 (x7 + 1) S6))
def l_M_tag_48 (d : Nat) : Nat → (Option Nat → Int32 → Int32 → Int32 → Int32 → Int32 → Int32 → xS → Option (Int32 × xS))
  | 0 => fun _ _ _ _ _ _ _ _ => none
  | n + 1 => fun x0 x1 x3 x4 x5 x6 x7 S => b_M_tag_48 d (l_M_tag_48 d n) x0 x1 x3 x4 x5 x6 x7 S
def b_M_tag_16 (d : Nat) (x0 : Option Nat) (x1 : Int32) (x2 : Int32) (x3 : Int32) (x4 : Int32) (x5 : Int32) (y0 : Int32) (y1 : Option Nat) (S : xS) : Option (Int32 × xS) := (xput S y1 5 0 (.int y0)).bind fun S1 => (xgI S1 x0 5 0).bind fun v2 => (if v2 ≤ 0 then ((xobj S1 x0 5).bind fun _ => (f_M_keep d x0 x1 x2 x3 S1).bind fun q3 => (xgR q3.2 x0 5 3).bind fun v4 => (xldI q3.2 v4 3 x1).bind fun v5 => l_M_tag_48 d xN x0 x1 x3 x4 x5 (v5 + x2) 0 q3.2) else (some (0, S1)))
def e_M_tag (d : Nat) (p0 : Option Nat) (p1 : Int32) (p2 : Int32) (p3 : Int32) (p4 : Int32) (p5 : Int32) (S : xS) : Option (Int32 × xS) := (xobj S p0 5).bind fun _ => (f_M_isRange d p0 p1 p2 p3 S).bind fun q1 => (if q1.1 = 0 then (b_M_tag_16 d p0 p1 p2 p3 p4 p5 1 p0 q1.2) else (b_M_tag_16 d p0 p1 p2 p3 p4 p5 0 p0 q1.2))
def f_M_tag : Nat → (Option Nat → Int32 → Int32 → Int32 → Int32 → Int32 → xS → Option (Int32 × xS))
  | 0 => fun _ _ _ _ _ _ _ => none
  | d + 1 => fun p0 p1 p2 p3 p4 p5 S => e_M_tag d p0 p1 p2 p3 p4 p5 S
def b_M_wipe_13 (d : Nat) (x0 : Option Nat) (x1 : Int32) (y0 : Int32) (y1 : Option Nat) (S : xS) : Option (Int32 × xS) := (xput S y1 5 0 (.int y0)).bind fun S1 => (xgI S1 x0 5 0).bind fun v2 => (if v2 ≤ 0 then ((xobj S1 x0 5).bind fun _ => (f_M_size d x0 x1 S1).bind fun q3 => (xobj q3.2 x0 5).bind fun _ => (f_M_remove d x0 x1 0 q3.1 q3.2).bind fun q4 => some (q3.1, q4.2)) else (some (0, S1)))
def e_M_wipe (d : Nat) (p0 : Option Nat) (p1 : Int32) (S : xS) : Option (Int32 × xS) := (f_M_isText d p1 S).bind fun q1 => (if q1.1 = 0 then (b_M_wipe_13 d p0 p1 1 p0 q1.2) else (b_M_wipe_13 d p0 p1 0 p0 q1.2))
def f_M_wipe : Nat → (Option Nat → Int32 → xS → Option (Int32 × xS))
  | 0 => fun _ _ _ => none
  | d + 1 => fun p0 p1 S => e_M_wipe d p0 p1 S
def b_M_length_21 (d : Nat) (y0 : Int32) (S : xS) : Option (Int32 × xS) := some (y0, S)
def e_M_length (d : Nat) (p0 : Option Nat) (p1 : Int32) (S : xS) : Option (Int32 × xS) := (xput S p0 5 0 (.int 0)).bind fun S1 => (f_M_isText d p1 S1).bind fun q2 => (if q2.1 = 0 then (b_M_length_21 d ((-1)) q2.2) else ((xobj q2.2 p0 5).bind fun _ => (f_M_size d p0 p1 q2.2).bind fun q3 => b_M_length_21 d q3.1 q3.2))
def f_M_length : Nat → (Option Nat → Int32 → xS → Option (Int32 × xS))
  | 0 => fun _ _ _ => none
  | d + 1 => fun p0 p1 S => e_M_length d p0 p1 S
def b_M_look_154 (d : Nat) (y0 : Int32) (S : xS) : Option (Int32 × xS) := some (y0, S)
def b_M_look_94 (d : Nat) (k70 : Option Nat → Int32 → Int32 → Int32 → Int32 → Int32 → xS → Option (Int32 × xS)) (x0 : Option Nat) (x1 : Int32) (x3 : Int32) (x4 : Int32) (x6 : Int32) (y0 : Int32) (y1 : Int32) (S : xS) : Option (Int32 × xS) := k70 x0 x1 x3 x4 (y1 + y0) (x6 + 1) S
def b_M_look_70 (d : Nat) (k70 : Option Nat → Int32 → Int32 → Int32 → Int32 → Int32 → xS → Option (Int32 × xS)) (x0 : Option Nat) (x1 : Int32) (x3 : Int32) (x4 : Int32) (x5 : Int32) (x6 : Int32) (S : xS) : Option (Int32 × xS) := (if x4 < x6 then (if x3 = 0 then ((xgR S x0 5 2).bind fun v5 => (xgR S x0 5 4).bind fun v6 => (xldI S v6 3 x4).bind fun v7 => (xldI S v5 3 v7).bind fun v8 => b_M_look_154 d v8 S) else (if x3 = 1 then ((xgR S x0 5 4).bind fun v3 => (xldI S v3 3 x4).bind fun v4 => b_M_look_154 d v4 S) else (if x3 = 2 then ((xgR S x0 5 5).bind fun v1 => (xldI S v1 3 x4).bind fun v2 => b_M_look_154 d v2 S) else (b_M_look_154 d x5 S)))) else ((xobj S x0 5).bind fun _ => (f_M_parts d x0 x1 x6 S).bind fun q9 => (if q9.1 = 0 then (b_M_look_94 d k70 x0 x1 x3 x4 x6 0 x5 q9.2) else (b_M_look_94 d k70 x0 x1 x3 x4 x6 1 x5 q9.2))))
def l_M_look_70 (d : Nat) : Nat → (Option Nat → Int32 → Int32 → Int32 → Int32 → Int32 → xS → Option (Int32 × xS))
  | 0 => fun _ _ _ _ _ _ _ => none
  | n + 1 => fun x0 x1 x3 x4 x5 x6 S => b_M_look_70 d (l_M_look_70 d n) x0 x1 x3 x4 x5 x6 S
def b_M_look_37 (d : Nat) (x0 : Option Nat) (x1 : Int32) (x2 : Int32) (x3 : Int32) (y0 : Int32) (y1 : Option Nat) (S : xS) : Option (Int32 × xS) := (xput S y1 5 0 (.int y0)).bind fun S1 => (xgI S1 x0 5 0).bind fun v2 => (if v2 ≤ 0 then ((xgR S1 x0 5 3).bind fun v3 => (xldI S1 v3 3 x1).bind fun v4 => (xgR S1 x0 5 3).bind fun v5 => (xldI S1 v5 3 x1).bind fun v6 => l_M_look_70 d xN x0 x1 x3 (v4 + x2) ((-1)) v6 S1) else (some (0, S1)))
def b_M_look_32 (d : Nat) (x0 : Option Nat) (x1 : Int32) (x2 : Int32) (x3 : Int32) (y0 : Option Nat) (S : xS) : Option (Int32 × xS) := b_M_look_37 d x0 x1 x2 x3 2 y0 S
def b_M_look_19 (d : Nat) (x0 : Option Nat) (x1 : Int32) (x2 : Int32) (x3 : Int32) (y0 : Option Nat) (S : xS) : Option (Int32 × xS) := b_M_look_37 d x0 x1 x2 x3 1 y0 S
def e_M_look (d : Nat) (p0 : Option Nat) (p1 : Int32) (p2 : Int32) (p3 : Int32) (S : xS) : Option (Int32 × xS) := (xobj S p0 5).bind fun _ => (f_M_isPlace d p0 p1 p2 S).bind fun q1 => (if q1.1 = 0 then (b_M_look_19 d p0 p1 p2 p3 p0 q1.2) else ((xobj q1.2 p0 5).bind fun _ => (f_M_size d p0 p1 q1.2).bind fun q2 => (if p2 = q2.1 then (b_M_look_19 d p0 p1 p2 p3 p0 q2.2) else (if p3 < 0 then (b_M_look_32 d p0 p1 p2 p3 p0 q2.2) else (if p3 ≤ 3 then (b_M_look_37 d p0 p1 p2 p3 0 p0 q2.2) else (b_M_look_32 d p0 p1 p2 p3 p0 q2.2))))))
def f_M_look : Nat → (Option Nat → Int32 → Int32 → Int32 → xS → Option (Int32 × xS))
  | 0 => fun _ _ _ _ _ => none
  | d + 1 => fun p0 p1 p2 p3 S => e_M_look d p0 p1 p2 p3 S
def b_M_piece_179 (d : Nat) (y0 : Int32) (S : xS) : Option (Int32 × xS) := some (y0, S)
def b_M_piece_131 (d : Nat) (x0 : Option Nat) (x1 : Int32) (x3 : Int32) (x5 : Int32) (x6 : Int32) (S : xS) : Option (Int32 × xS) := (if x3 = 0 then ((xgR S x0 5 3).bind fun v5 => (xldI S v5 3 x1).bind fun v6 => b_M_piece_179 d (x5 - v6) S) else (if x3 = 1 then ((xgR S x0 5 4).bind fun v3 => (xldI S v3 3 x5).bind fun v4 => b_M_piece_179 d v4 S) else (if x3 = 2 then (b_M_piece_179 d x6 S) else ((xgR S x0 5 5).bind fun v1 => (xldI S v1 3 x5).bind fun v2 => b_M_piece_179 d v2 S))))
def b_M_piece_96 (d : Nat) (k96 : Option Nat → Int32 → Int32 → Int32 → Int32 → xS → Option (Int32 × xS)) (x0 : Option Nat) (x1 : Int32) (x3 : Int32) (x5 : Int32) (x6 : Int32) (S : xS) : Option (Int32 × xS) := (xgR S x0 5 3).bind fun v1 => (xldI S v1 3 (x1 + 1)).bind fun v2 => (if v2 ≤ (x5 + x6) then (b_M_piece_131 d x0 x1 x3 x5 x6 S) else ((xobj S x0 5).bind fun _ => (f_M_parts d x0 x1 (x5 + x6) S).bind fun q3 => (if q3.1 = 0 then (k96 x0 x1 x3 x5 (x6 + 1) q3.2) else (b_M_piece_131 d x0 x1 x3 x5 x6 q3.2))))
def l_M_piece_96 (d : Nat) : Nat → (Option Nat → Int32 → Int32 → Int32 → Int32 → xS → Option (Int32 × xS))
  | 0 => fun _ _ _ _ _ _ => none
  | n + 1 => fun x0 x1 x3 x5 x6 S => b_M_piece_96 d (l_M_piece_96 d n) x0 x1 x3 x5 x6 S
def b_M_piece_87 (d : Nat) (k62 : Option Nat → Int32 → Int32 → Int32 → Int32 → xS → Option (Int32 × xS)) (x0 : Option Nat) (x1 : Int32) (x3 : Int32) (x5 : Int32) (y0 : Int32) (y1 : Int32) (S : xS) : Option (Int32 × xS) := k62 x0 x1 x3 (y1 - y0) x5 S
def b_M_piece_62 (d : Nat) (k62 : Option Nat → Int32 → Int32 → Int32 → Int32 → xS → Option (Int32 × xS)) (x0 : Option Nat) (x1 : Int32) (x3 : Int32) (x4 : Int32) (x5 : Int32) (S : xS) : Option (Int32 × xS) := (if x4 ≤ 0 then (l_M_piece_96 d xN x0 x1 x3 x5 1 S) else ((xobj S x0 5).bind fun _ => (f_M_parts d x0 x1 (x5 + 1) S).bind fun q1 => (if q1.1 = 0 then (b_M_piece_87 d k62 x0 x1 x3 (x5 + 1) 0 x4 q1.2) else (b_M_piece_87 d k62 x0 x1 x3 (x5 + 1) 1 x4 q1.2))))
def l_M_piece_62 (d : Nat) : Nat → (Option Nat → Int32 → Int32 → Int32 → Int32 → xS → Option (Int32 × xS))
  | 0 => fun _ _ _ _ _ _ => none
  | n + 1 => fun x0 x1 x3 x4 x5 S => b_M_piece_62 d (l_M_piece_62 d n) x0 x1 x3 x4 x5 S
def b_M_piece_39 (d : Nat) (x0 : Option Nat) (x1 : Int32) (x2 : Int32) (x3 : Int32) (y0 : Int32) (y1 : Option Nat) (S : xS) : Option (Int32 × xS) := (xput S y1 5 0 (.int y0)).bind fun S1 => (xgI S1 x0 5 0).bind fun v2 => (if v2 ≤ 0 then ((xgR S1 x0 5 3).bind fun v3 => (xldI S1 v3 3 x1).bind fun v4 => l_M_piece_62 d xN x0 x1 x3 x2 v4 S1) else (some (0, S1)))
def b_M_piece_34 (d : Nat) (x0 : Option Nat) (x1 : Int32) (x2 : Int32) (x3 : Int32) (y0 : Option Nat) (S : xS) : Option (Int32 × xS) := b_M_piece_39 d x0 x1 x2 x3 2 y0 S
def b_M_piece_21 (d : Nat) (x0 : Option Nat) (x1 : Int32) (x2 : Int32) (x3 : Int32) (y0 : Option Nat) (S : xS) : Option (Int32 × xS) := b_M_piece_39 d x0 x1 x2 x3 1 y0 S
def e_M_piece (d : Nat) (p0 : Option Nat) (p1 : Int32) (p2 : Int32) (p3 : Int32) (S : xS) : Option (Int32 × xS) := (f_M_isText d p1 S).bind fun q1 => (if q1.1 = 0 then (b_M_piece_21 d p0 p1 p2 p3 p0 q1.2) else (if p2 < 0 then (b_M_piece_21 d p0 p1 p2 p3 p0 q1.2) else ((xobj q1.2 p0 5).bind fun _ => (f_M_pieces d p0 p1 q1.2).bind fun q2 => (if p2 < q2.1 then (if p3 < 0 then (b_M_piece_34 d p0 p1 p2 p3 p0 q2.2) else (if p3 ≤ 3 then (b_M_piece_39 d p0 p1 p2 p3 0 p0 q2.2) else (b_M_piece_34 d p0 p1 p2 p3 p0 q2.2))) else (b_M_piece_21 d p0 p1 p2 p3 p0 q2.2)))))
def f_M_piece : Nat → (Option Nat → Int32 → Int32 → Int32 → xS → Option (Int32 × xS))
  | 0 => fun _ _ _ _ _ => none
  | d + 1 => fun p0 p1 p2 p3 S => e_M_piece d p0 p1 p2 p3 S
def b_M_find_37 (d : Nat) (k37 : Option Nat → Int32 → Int32 → Int32 → xS → Option (Int32 × xS)) (x0 : Option Nat) (x1 : Int32) (x3 : Int32) (x4 : Int32) (S : xS) : Option (Int32 × xS) := (xgR S x0 5 3).bind fun v1 => (xldI S v1 3 (x1 + 1)).bind fun v2 => (if v2 ≤ x4 then (some ((-1), S)) else ((xgR S x0 5 2).bind fun v3 => (xgR S x0 5 4).bind fun v4 => (xldI S v4 3 x4).bind fun v5 => (xldI S v3 3 v5).bind fun v6 => (if v6 = x3 then ((xgR S x0 5 3).bind fun v7 => (xldI S v7 3 x1).bind fun v8 => some (x4 - v8, S)) else (k37 x0 x1 x3 (x4 + 1) S))))
def l_M_find_37 (d : Nat) : Nat → (Option Nat → Int32 → Int32 → Int32 → xS → Option (Int32 × xS))
  | 0 => fun _ _ _ _ _ => none
  | n + 1 => fun x0 x1 x3 x4 S => b_M_find_37 d (l_M_find_37 d n) x0 x1 x3 x4 S
def b_M_find_15 (d : Nat) (x0 : Option Nat) (x1 : Int32) (x2 : Int32) (x3 : Int32) (y0 : Int32) (y1 : Option Nat) (S : xS) : Option (Int32 × xS) := (xput S y1 5 0 (.int y0)).bind fun S1 => (xgI S1 x0 5 0).bind fun v2 => (if v2 ≤ 0 then ((xgR S1 x0 5 3).bind fun v3 => (xldI S1 v3 3 x1).bind fun v4 => l_M_find_37 d xN x0 x1 x3 (v4 + x2) S1) else (some (0, S1)))
def e_M_find (d : Nat) (p0 : Option Nat) (p1 : Int32) (p2 : Int32) (p3 : Int32) (S : xS) : Option (Int32 × xS) := (xobj S p0 5).bind fun _ => (f_M_isPlace d p0 p1 p2 S).bind fun q1 => (if q1.1 = 0 then (b_M_find_15 d p0 p1 p2 p3 1 p0 q1.2) else (b_M_find_15 d p0 p1 p2 p3 0 p0 q1.2))
def f_M_find : Nat → (Option Nat → Int32 → Int32 → Int32 → xS → Option (Int32 × xS))
  | 0 => fun _ _ _ _ _ => none
  | d + 1 => fun p0 p1 p2 p3 S => e_M_find d p0 p1 p2 p3 S
def b_M_differ_120 (d : Nat) (y0 : Int32) (S : xS) : Option (Int32 × xS) := some (y0, S)
def b_M_differ_115 (d : Nat) (x3 : Int32) (S : xS) : Option (Int32 × xS) := b_M_differ_120 d x3 S
def b_M_differ_97 (d : Nat) (x0 : Option Nat) (x1 : Int32) (x2 : Int32) (x3 : Int32) (S : xS) : Option (Int32 × xS) := (xobj S x0 5).bind fun _ => (f_M_size d x0 x1 S).bind fun q1 => (if x3 < q1.1 then (b_M_differ_115 d x3 q1.2) else ((xobj q1.2 x0 5).bind fun _ => (f_M_size d x0 x2 q1.2).bind fun q2 => (if q2.1 ≤ x3 then (b_M_differ_120 d ((-1)) q2.2) else (b_M_differ_115 d x3 q2.2))))
def b_M_differ_34 (d : Nat) (k34 : Option Nat → Int32 → Int32 → Int32 → xS → Option (Int32 × xS)) (x0 : Option Nat) (x1 : Int32) (x2 : Int32) (x3 : Int32) (S : xS) : Option (Int32 × xS) := (xobj S x0 5).bind fun _ => (f_M_size d x0 x1 S).bind fun q1 => (if q1.1 ≤ x3 then (b_M_differ_97 d x0 x1 x2 x3 q1.2) else ((xobj q1.2 x0 5).bind fun _ => (f_M_size d x0 x2 q1.2).bind fun q2 => (if q2.1 ≤ x3 then (b_M_differ_97 d x0 x1 x2 x3 q2.2) else ((xgR q2.2 x0 5 2).bind fun v3 => (xgR q2.2 x0 5 4).bind fun v4 => (xgR q2.2 x0 5 3).bind fun v5 => (xldI q2.2 v5 3 x1).bind fun v6 => (xldI q2.2 v4 3 (v6 + x3)).bind fun v7 => (xldI q2.2 v3 3 v7).bind fun v8 => (xgR q2.2 x0 5 2).bind fun v9 => (xgR q2.2 x0 5 4).bind fun v10 => (xgR q2.2 x0 5 3).bind fun v11 => (xldI q2.2 v11 3 x2).bind fun v12 => (xldI q2.2 v10 3 (v12 + x3)).bind fun v13 => (xldI q2.2 v9 3 v13).bind fun v14 => (if v8 = v14 then (k34 x0 x1 x2 (x3 + 1) q2.2) else (b_M_differ_97 d x0 x1 x2 x3 q2.2))))))
def l_M_differ_34 (d : Nat) : Nat → (Option Nat → Int32 → Int32 → Int32 → xS → Option (Int32 × xS))
  | 0 => fun _ _ _ _ _ => none
  | n + 1 => fun x0 x1 x2 x3 S => b_M_differ_34 d (l_M_differ_34 d n) x0 x1 x2 x3 S
def b_M_differ_20 (d : Nat) (x0 : Option Nat) (x1 : Int32) (x2 : Int32) (y0 : Int32) (y1 : Option Nat) (S : xS) : Option (Int32 × xS) := (xput S y1 5 0 (.int y0)).bind fun S1 => (xgI S1 x0 5 0).bind fun v2 => (if v2 ≤ 0 then (l_M_differ_34 d xN x0 x1 x2 0 S1) else (some (0, S1)))
def b_M_differ_19 (d : Nat) (x0 : Option Nat) (x1 : Int32) (x2 : Int32) (y0 : Option Nat) (S : xS) : Option (Int32 × xS) := b_M_differ_20 d x0 x1 x2 1 y0 S
def e_M_differ (d : Nat) (p0 : Option Nat) (p1 : Int32) (p2 : Int32) (S : xS) : Option (Int32 × xS) := (f_M_isText d p1 S).bind fun q1 => (if q1.1 = 0 then (b_M_differ_19 d p0 p1 p2 p0 q1.2) else ((f_M_isText d p2 q1.2).bind fun q2 => (if q2.1 = 0 then (b_M_differ_19 d p0 p1 p2 p0 q2.2) else (b_M_differ_20 d p0 p1 p2 0 p0 q2.2))))
def f_M_differ : Nat → (Option Nat → Int32 → Int32 → xS → Option (Int32 × xS))
  | 0 => fun _ _ _ _ => none
  | d + 1 => fun p0 p1 p2 S => e_M_differ d p0 p1 p2 S
def b_M_count_53 (d : Nat) (y0 : Int32) (S : xS) : Option (Int32 × xS) := some (y0, S)
def e_M_count (d : Nat) (p0 : Option Nat) (p1 : Int32) (S : xS) : Option (Int32 × xS) := (xput S p0 5 0 (.int 0)).bind fun S1 => (if p1 = 0 then ((xgI S1 p0 5 1).bind fun v5 => b_M_count_53 d v5 S1) else (if p1 = 1 then ((xgR S1 p0 5 3).bind fun v3 => (xldI S1 v3 3 16).bind fun v4 => b_M_count_53 d v4 S1) else (if p1 = 2 then ((xobj S1 p0 5).bind fun _ => (f_M_allPieces d p0 S1).bind fun q2 => b_M_count_53 d q2.1 q2.2) else (if p1 = 3 then (b_M_count_53 d 1 S1) else (b_M_count_53 d ((-1)) S1)))))
def f_M_count : Nat → (Option Nat → Int32 → xS → Option (Int32 × xS))
  | 0 => fun _ _ _ => none
  | d + 1 => fun p0 p1 S => e_M_count d p0 p1 S
def e_L_write (d : Nat) (p0 : Option Nat) (p1 : Int64) (p2 : Option Nat) (S : xS) : Option (Int32 × xS) := (xobj S p0 0).bind fun _ => (f_P_write d p0 p1 S).bind fun q1 => xtry q1.1 (fun v2 => (xstL q1.2 p2 1 0 v2.toInt64).bind fun S3 => some (0, S3)) (fun e => (if e = 0 then (some (1, q1.2)) else if e = 1 then (some (2, q1.2)) else none))
def f_L_write : Nat → (Option Nat → Int64 → Option Nat → xS → Option (Int32 × xS))
  | 0 => fun _ _ _ _ => none
  | d + 1 => fun p0 p1 p2 S => e_L_write d p0 p1 p2 S
def e_L_put (d : Nat) (p0 : Option Nat) (p1 : Int32) (p2 : Int32) (p3 : Int32) (p4 : Int32) (p5 : Int32) (p6 : Option Nat) (S : xS) : Option (Int32 × xS) := (xobj S p0 0).bind fun _ => (f_P_put d p0 p1 p2 p3 p4 p5 S).bind fun q1 => xtry q1.1 (fun v2 => (xstL q1.2 p6 1 0 v2.toInt64).bind fun S3 => some (0, S3)) (fun e => (if e = 2 then (some (1, q1.2)) else if e = 1 then (some (2, q1.2)) else none))
def f_L_put : Nat → (Option Nat → Int32 → Int32 → Int32 → Int32 → Int32 → Option Nat → xS → Option (Int32 × xS))
  | 0 => fun _ _ _ _ _ _ _ _ => none
  | d + 1 => fun p0 p1 p2 p3 p4 p5 p6 S => e_L_put d p0 p1 p2 p3 p4 p5 p6 S
def e_L_cut (d : Nat) (p0 : Option Nat) (p1 : Int32) (p2 : Int32) (p3 : Int32) (p4 : Int32) (p5 : Option Nat) (S : xS) : Option (Int32 × xS) := (xobj S p0 0).bind fun _ => (f_P_cut d p0 p1 p2 p3 p4 S).bind fun q1 => xtry q1.1 (fun v2 => (xstL q1.2 p5 1 0 v2.toInt64).bind fun S3 => some (0, S3)) (fun e => (if e = 2 then (some (1, q1.2)) else if e = 0 then (some (2, q1.2)) else if e = 1 then (some (3, q1.2)) else none))
def f_L_cut : Nat → (Option Nat → Int32 → Int32 → Int32 → Int32 → Option Nat → xS → Option (Int32 × xS))
  | 0 => fun _ _ _ _ _ _ _ => none
  | d + 1 => fun p0 p1 p2 p3 p4 p5 S => e_L_cut d p0 p1 p2 p3 p4 p5 S
def e_L_paste (d : Nat) (p0 : Option Nat) (p1 : Int32) (p2 : Int32) (p3 : Int32) (p4 : Option Nat) (S : xS) : Option (Int32 × xS) := (xobj S p0 0).bind fun _ => (f_P_paste d p0 p1 p2 p3 S).bind fun q1 => xtry q1.1 (fun v2 => (xstL q1.2 p4 1 0 v2.toInt64).bind fun S3 => some (0, S3)) (fun e => (if e = 2 then (some (1, q1.2)) else if e = 0 then (some (2, q1.2)) else if e = 1 then (some (3, q1.2)) else none))
def f_L_paste : Nat → (Option Nat → Int32 → Int32 → Int32 → Option Nat → xS → Option (Int32 × xS))
  | 0 => fun _ _ _ _ _ _ => none
  | d + 1 => fun p0 p1 p2 p3 p4 S => e_L_paste d p0 p1 p2 p3 p4 S
def e_L_copy (d : Nat) (p0 : Option Nat) (p1 : Int32) (p2 : Int32) (p3 : Int32) (p4 : Int32) (p5 : Option Nat) (S : xS) : Option (Int32 × xS) := (xobj S p0 0).bind fun _ => (f_P_copy d p0 p1 p2 p3 p4 S).bind fun q1 => xtry q1.1 (fun v2 => (xstL q1.2 p5 1 0 v2.toInt64).bind fun S3 => some (0, S3)) (fun e => (if e = 2 then (some (1, q1.2)) else if e = 0 then (some (2, q1.2)) else if e = 1 then (some (3, q1.2)) else none))
def f_L_copy : Nat → (Option Nat → Int32 → Int32 → Int32 → Int32 → Option Nat → xS → Option (Int32 × xS))
  | 0 => fun _ _ _ _ _ _ _ => none
  | d + 1 => fun p0 p1 p2 p3 p4 p5 S => e_L_copy d p0 p1 p2 p3 p4 p5 S
def e_L_tag (d : Nat) (p0 : Option Nat) (p1 : Int32) (p2 : Int32) (p3 : Int32) (p4 : Int32) (p5 : Int32) (p6 : Option Nat) (S : xS) : Option (Int32 × xS) := (xobj S p0 0).bind fun _ => (f_P_tag d p0 p1 p2 p3 p4 p5 S).bind fun q1 => xtry q1.1 (fun v2 => (xstL q1.2 p6 1 0 v2.toInt64).bind fun S3 => some (0, S3)) (fun e => (if e = 2 then (some (1, q1.2)) else if e = 1 then (some (2, q1.2)) else none))
def f_L_tag : Nat → (Option Nat → Int32 → Int32 → Int32 → Int32 → Int32 → Option Nat → xS → Option (Int32 × xS))
  | 0 => fun _ _ _ _ _ _ _ _ => none
  | d + 1 => fun p0 p1 p2 p3 p4 p5 p6 S => e_L_tag d p0 p1 p2 p3 p4 p5 p6 S
def e_L_wipe (d : Nat) (p0 : Option Nat) (p1 : Int32) (p2 : Option Nat) (S : xS) : Option (Int32 × xS) := (xobj S p0 0).bind fun _ => (f_P_wipe d p0 p1 S).bind fun q1 => xtry q1.1 (fun v2 => (xstL q1.2 p2 1 0 v2.toInt64).bind fun S3 => some (0, S3)) (fun e => (if e = 2 then (some (1, q1.2)) else none))
def f_L_wipe : Nat → (Option Nat → Int32 → Option Nat → xS → Option (Int32 × xS))
  | 0 => fun _ _ _ _ => none
  | d + 1 => fun p0 p1 p2 S => e_L_wipe d p0 p1 p2 S
def e_L_look (d : Nat) (p0 : Option Nat) (p1 : Int32) (p2 : Int32) (p3 : Int32) (p4 : Option Nat) (S : xS) : Option (Int32 × xS) := (xobj S p0 0).bind fun _ => (f_P_look d p0 p1 p2 p3 S).bind fun q1 => xtry q1.1 (fun v2 => (xstL q1.2 p4 1 0 v2.toInt64).bind fun S3 => some (0, S3)) (fun e => (if e = 2 then (some (1, q1.2)) else if e = 0 then (some (2, q1.2)) else none))
def f_L_look : Nat → (Option Nat → Int32 → Int32 → Int32 → Option Nat → xS → Option (Int32 × xS))
  | 0 => fun _ _ _ _ _ _ => none
  | d + 1 => fun p0 p1 p2 p3 p4 S => e_L_look d p0 p1 p2 p3 p4 S
def e_L_piece (d : Nat) (p0 : Option Nat) (p1 : Int32) (p2 : Int32) (p3 : Int32) (p4 : Option Nat) (S : xS) : Option (Int32 × xS) := (xobj S p0 0).bind fun _ => (f_P_piece d p0 p1 p2 p3 S).bind fun q1 => xtry q1.1 (fun v2 => (xstL q1.2 p4 1 0 v2.toInt64).bind fun S3 => some (0, S3)) (fun e => (if e = 2 then (some (1, q1.2)) else if e = 0 then (some (2, q1.2)) else none))
def f_L_piece : Nat → (Option Nat → Int32 → Int32 → Int32 → Option Nat → xS → Option (Int32 × xS))
  | 0 => fun _ _ _ _ _ _ => none
  | d + 1 => fun p0 p1 p2 p3 p4 S => e_L_piece d p0 p1 p2 p3 p4 S
def e_L_find (d : Nat) (p0 : Option Nat) (p1 : Int32) (p2 : Int32) (p3 : Int32) (p4 : Option Nat) (S : xS) : Option (Int32 × xS) := (xobj S p0 0).bind fun _ => (f_P_find d p0 p1 p2 p3 S).bind fun q1 => xtry q1.1 (fun v2 => (xstL q1.2 p4 1 0 v2.toInt64).bind fun S3 => some (0, S3)) (fun e => (if e = 2 then (some (1, q1.2)) else none))
def f_L_find : Nat → (Option Nat → Int32 → Int32 → Int32 → Option Nat → xS → Option (Int32 × xS))
  | 0 => fun _ _ _ _ _ _ => none
  | d + 1 => fun p0 p1 p2 p3 p4 S => e_L_find d p0 p1 p2 p3 p4 S
def e_L_differ (d : Nat) (p0 : Option Nat) (p1 : Int32) (p2 : Int32) (p3 : Option Nat) (S : xS) : Option (Int32 × xS) := (xobj S p0 0).bind fun _ => (f_P_differ d p0 p1 p2 S).bind fun q1 => xtry q1.1 (fun v2 => (xstL q1.2 p3 1 0 v2.toInt64).bind fun S3 => some (0, S3)) (fun e => (if e = 2 then (some (1, q1.2)) else none))
def f_L_differ : Nat → (Option Nat → Int32 → Int32 → Option Nat → xS → Option (Int32 × xS))
  | 0 => fun _ _ _ _ _ => none
  | d + 1 => fun p0 p1 p2 p3 S => e_L_differ d p0 p1 p2 p3 S
def b_L_law_1082 (sc : Nat × Nat × (Nat → Int32)) (d : Nat) (k23 : Option Nat → Option Nat → Option Nat → Int32 → xS → Option (Int32 × xS)) (x1 : Option Nat) (x2 : Option Nat) (x3 : Option Nat) (x4 : Int32) (S : xS) : Option (Int32 × xS) := k23 x1 x2 x3 (x4 + 6) S
def b_L_law_1054 (sc : Nat × Nat × (Nat → Int32)) (d : Nat) (k23 : Option Nat → Option Nat → Option Nat → Int32 → xS → Option (Int32 × xS)) (x1 : Option Nat) (x2 : Option Nat) (x3 : Option Nat) (x4 : Int32) (S : xS) : Option (Int32 × xS) := b_L_law_1082 sc d k23 x1 x2 x3 x4 S
def b_L_law_986 (sc : Nat × Nat × (Nat → Int32)) (d : Nat) (k23 : Option Nat → Option Nat → Option Nat → Int32 → xS → Option (Int32 × xS)) (x1 : Option Nat) (x2 : Option Nat) (x3 : Option Nat) (x4 : Int32) (S : xS) : Option (Int32 × xS) := b_L_law_1082 sc d k23 x1 x2 x3 x4 S
def b_L_law_906 (sc : Nat × Nat × (Nat → Int32)) (d : Nat) (k23 : Option Nat → Option Nat → Option Nat → Int32 → xS → Option (Int32 × xS)) (x1 : Option Nat) (x2 : Option Nat) (x3 : Option Nat) (x4 : Int32) (S : xS) : Option (Int32 × xS) := b_L_law_1082 sc d k23 x1 x2 x3 x4 S
def b_L_law_826 (sc : Nat × Nat × (Nat → Int32)) (d : Nat) (k23 : Option Nat → Option Nat → Option Nat → Int32 → xS → Option (Int32 × xS)) (x1 : Option Nat) (x2 : Option Nat) (x3 : Option Nat) (x4 : Int32) (S : xS) : Option (Int32 × xS) := b_L_law_1082 sc d k23 x1 x2 x3 x4 S
def b_L_law_721 (sc : Nat × Nat × (Nat → Int32)) (d : Nat) (k23 : Option Nat → Option Nat → Option Nat → Int32 → xS → Option (Int32 × xS)) (x1 : Option Nat) (x2 : Option Nat) (x3 : Option Nat) (x4 : Int32) (S : xS) : Option (Int32 × xS) := b_L_law_1082 sc d k23 x1 x2 x3 x4 S
def b_L_law_665 (sc : Nat × Nat × (Nat → Int32)) (d : Nat) (k23 : Option Nat → Option Nat → Option Nat → Int32 → xS → Option (Int32 × xS)) (x1 : Option Nat) (x2 : Option Nat) (x3 : Option Nat) (x4 : Int32) (S : xS) : Option (Int32 × xS) := b_L_law_1082 sc d k23 x1 x2 x3 x4 S
def b_L_law_561 (sc : Nat × Nat × (Nat → Int32)) (d : Nat) (k23 : Option Nat → Option Nat → Option Nat → Int32 → xS → Option (Int32 × xS)) (x1 : Option Nat) (x2 : Option Nat) (x3 : Option Nat) (x4 : Int32) (S : xS) : Option (Int32 × xS) := b_L_law_1082 sc d k23 x1 x2 x3 x4 S
def b_L_law_469 (sc : Nat × Nat × (Nat → Int32)) (d : Nat) (k23 : Option Nat → Option Nat → Option Nat → Int32 → xS → Option (Int32 × xS)) (x1 : Option Nat) (x2 : Option Nat) (x3 : Option Nat) (x4 : Int32) (S : xS) : Option (Int32 × xS) := b_L_law_1082 sc d k23 x1 x2 x3 x4 S
def b_L_law_389 (sc : Nat × Nat × (Nat → Int32)) (d : Nat) (k23 : Option Nat → Option Nat → Option Nat → Int32 → xS → Option (Int32 × xS)) (x1 : Option Nat) (x2 : Option Nat) (x3 : Option Nat) (x4 : Int32) (S : xS) : Option (Int32 × xS) := b_L_law_1082 sc d k23 x1 x2 x3 x4 S
def b_L_law_297 (sc : Nat × Nat × (Nat → Int32)) (d : Nat) (k23 : Option Nat → Option Nat → Option Nat → Int32 → xS → Option (Int32 × xS)) (x1 : Option Nat) (x2 : Option Nat) (x3 : Option Nat) (x4 : Int32) (S : xS) : Option (Int32 × xS) := b_L_law_1082 sc d k23 x1 x2 x3 x4 S
def b_L_law_193 (sc : Nat × Nat × (Nat → Int32)) (d : Nat) (k23 : Option Nat → Option Nat → Option Nat → Int32 → xS → Option (Int32 × xS)) (x1 : Option Nat) (x2 : Option Nat) (x3 : Option Nat) (x4 : Int32) (S : xS) : Option (Int32 × xS) := b_L_law_1082 sc d k23 x1 x2 x3 x4 S
def b_L_law_23 (sc : Nat × Nat × (Nat → Int32)) (d : Nat) (k23 : Option Nat → Option Nat → Option Nat → Int32 → xS → Option (Int32 × xS)) (x1 : Option Nat) (x2 : Option Nat) (x3 : Option Nat) (x4 : Int32) (S : xS) : Option (Int32 × xS) := (if ((Int32.ofNat sc.2.1) - 6) < x4 then (if 1 = 0 ∨ 1 = 1 then some (1, S) else none) else ((xsld sc x4).bind fun v1 => (if (v1 &&& 15) = 0 then ((xsld sc (x4 + 1)).bind fun v2 => (xsld sc (x4 + 2)).bind fun v3 => (f_L_write d x1 ((v2.toInt64 <<< ((32 : Int32).toInt64 &&& 63)) ||| (v3.toInt64 &&& ((4294967295 : Int64)))) x3 S).bind fun q4 => (xsld sc (x4 + 1)).bind fun v5 => (xsld sc (x4 + 2)).bind fun v6 => (xobj q4.2 x2 5).bind fun _ => (f_M_write d x2 ((v5.toInt64 <<< ((32 : Int32).toInt64 &&& 63)) ||| (v6.toInt64 &&& ((4294967295 : Int64)))) q4.2).bind fun q7 => (xobj q7.2 x2 5).bind fun _ => (f_M_thrown d x2 q7.2).bind fun q8 => (if q8.1 = q4.1 then (if q4.1 = 0 then ((xldL q8.2 x3 1 0).bind fun v9 => (if (lg_cmp v9 q7.1.toInt64) = 0 then (b_L_law_193 sc d k23 x1 x2 x3 x4 q8.2) else (if 0 = 0 ∨ 0 = 1 then some (0, q8.2) else none))) else (b_L_law_193 sc d k23 x1 x2 x3 x4 q8.2)) else (if 0 = 0 ∨ 0 = 1 then some (0, q8.2) else none))) else if (v1 &&& 15) = 1 then ((xsld sc (x4 + 1)).bind fun v10 => (xsld sc (x4 + 2)).bind fun v11 => (xsld sc (x4 + 3)).bind fun v12 => (xsld sc (x4 + 4)).bind fun v13 => (xsld sc (x4 + 5)).bind fun v14 => (f_L_put d x1 v10 v11 v12 v13 v14 x3 S).bind fun q15 => (xsld sc (x4 + 1)).bind fun v16 => (xsld sc (x4 + 2)).bind fun v17 => (xsld sc (x4 + 3)).bind fun v18 => (xsld sc (x4 + 4)).bind fun v19 => (xsld sc (x4 + 5)).bind fun v20 => (xobj q15.2 x2 5).bind fun _ => (f_M_put d x2 v16 v17 v18 v19 v20 q15.2).bind fun q21 => (xobj q21.2 x2 5).bind fun _ => (f_M_thrown d x2 q21.2).bind fun q22 => (if q22.1 = q15.1 then (if q15.1 = 0 then ((xldL q22.2 x3 1 0).bind fun v23 => (if (lg_cmp v23 q21.1.toInt64) = 0 then (b_L_law_297 sc d k23 x1 x2 x3 x4 q22.2) else (if 0 = 0 ∨ 0 = 1 then some (0, q22.2) else none))) else (b_L_law_297 sc d k23 x1 x2 x3 x4 q22.2)) else (if 0 = 0 ∨ 0 = 1 then some (0, q22.2) else none))) else if (v1 &&& 15) = 2 then ((xsld sc (x4 + 1)).bind fun v24 => (xsld sc (x4 + 2)).bind fun v25 => (xsld sc (x4 + 3)).bind fun v26 => (xsld sc (x4 + 4)).bind fun v27 => (f_L_cut d x1 v24 v25 v26 v27 x3 S).bind fun q28 => (xsld sc (x4 + 1)).bind fun v29 => (xsld sc (x4 + 2)).bind fun v30 => (xsld sc (x4 + 3)).bind fun v31 => (xsld sc (x4 + 4)).bind fun v32 => (xobj q28.2 x2 5).bind fun _ => (f_M_cut d x2 v29 v30 v31 v32 q28.2).bind fun q33 => (xobj q33.2 x2 5).bind fun _ => (f_M_thrown d x2 q33.2).bind fun q34 => (if q34.1 = q28.1 then (if q28.1 = 0 then ((xldL q34.2 x3 1 0).bind fun v35 => (if (lg_cmp v35 q33.1.toInt64) = 0 then (b_L_law_389 sc d k23 x1 x2 x3 x4 q34.2) else (if 0 = 0 ∨ 0 = 1 then some (0, q34.2) else none))) else (b_L_law_389 sc d k23 x1 x2 x3 x4 q34.2)) else (if 0 = 0 ∨ 0 = 1 then some (0, q34.2) else none))) else if (v1 &&& 15) = 3 then ((xsld sc (x4 + 1)).bind fun v36 => (xsld sc (x4 + 2)).bind fun v37 => (xsld sc (x4 + 3)).bind fun v38 => (f_L_paste d x1 v36 v37 v38 x3 S).bind fun q39 => (xsld sc (x4 + 1)).bind fun v40 => (xsld sc (x4 + 2)).bind fun v41 => (xsld sc (x4 + 3)).bind fun v42 => (xobj q39.2 x2 5).bind fun _ => (f_M_paste d x2 v40 v41 v42 q39.2).bind fun q43 => (xobj q43.2 x2 5).bind fun _ => (f_M_thrown d x2 q43.2).bind fun q44 => (if q44.1 = q39.1 then (if q39.1 = 0 then ((xldL q44.2 x3 1 0).bind fun v45 => (if (lg_cmp v45 q43.1.toInt64) = 0 then (b_L_law_469 sc d k23 x1 x2 x3 x4 q44.2) else (if 0 = 0 ∨ 0 = 1 then some (0, q44.2) else none))) else (b_L_law_469 sc d k23 x1 x2 x3 x4 q44.2)) else (if 0 = 0 ∨ 0 = 1 then some (0, q44.2) else none))) else if (v1 &&& 15) = 4 then ((xsld sc (x4 + 1)).bind fun v46 => (xsld sc (x4 + 2)).bind fun v47 => (xsld sc (x4 + 3)).bind fun v48 => (xsld sc (x4 + 4)).bind fun v49 => (f_L_copy d x1 v46 v47 v48 v49 x3 S).bind fun q50 => (xsld sc (x4 + 1)).bind fun v51 => (xsld sc (x4 + 2)).bind fun v52 => (xsld sc (x4 + 3)).bind fun v53 => (xsld sc (x4 + 4)).bind fun v54 => (xobj q50.2 x2 5).bind fun _ => (f_M_copy d x2 v51 v52 v53 v54 q50.2).bind fun q55 => (xobj q55.2 x2 5).bind fun _ => (f_M_thrown d x2 q55.2).bind fun q56 => (if q56.1 = q50.1 then (if q50.1 = 0 then ((xldL q56.2 x3 1 0).bind fun v57 => (if (lg_cmp v57 q55.1.toInt64) = 0 then (b_L_law_561 sc d k23 x1 x2 x3 x4 q56.2) else (if 0 = 0 ∨ 0 = 1 then some (0, q56.2) else none))) else (b_L_law_561 sc d k23 x1 x2 x3 x4 q56.2)) else (if 0 = 0 ∨ 0 = 1 then some (0, q56.2) else none))) else if (v1 &&& 15) = 5 then ((xsld sc (x4 + 1)).bind fun v58 => (xsld sc (x4 + 2)).bind fun v59 => (xsld sc (x4 + 3)).bind fun v60 => (xsld sc (x4 + 4)).bind fun v61 => (xsld sc (x4 + 5)).bind fun v62 => (f_L_tag d x1 v58 v59 v60 v61 v62 x3 S).bind fun q63 => (xsld sc (x4 + 1)).bind fun v64 => (xsld sc (x4 + 2)).bind fun v65 => (xsld sc (x4 + 3)).bind fun v66 => (xsld sc (x4 + 4)).bind fun v67 => (xsld sc (x4 + 5)).bind fun v68 => (xobj q63.2 x2 5).bind fun _ => (f_M_tag d x2 v64 v65 v66 v67 v68 q63.2).bind fun q69 => (xobj q69.2 x2 5).bind fun _ => (f_M_thrown d x2 q69.2).bind fun q70 => (if q70.1 = q63.1 then (if q63.1 = 0 then ((xldL q70.2 x3 1 0).bind fun v71 => (if (lg_cmp v71 q69.1.toInt64) = 0 then (b_L_law_665 sc d k23 x1 x2 x3 x4 q70.2) else (if 0 = 0 ∨ 0 = 1 then some (0, q70.2) else none))) else (b_L_law_665 sc d k23 x1 x2 x3 x4 q70.2)) else (if 0 = 0 ∨ 0 = 1 then some (0, q70.2) else none))) else if (v1 &&& 15) = 6 then ((xsld sc (x4 + 1)).bind fun v72 => (f_L_wipe d x1 v72 x3 S).bind fun q73 => (xsld sc (x4 + 1)).bind fun v74 => (xobj q73.2 x2 5).bind fun _ => (f_M_wipe d x2 v74 q73.2).bind fun q75 => (xobj q75.2 x2 5).bind fun _ => (f_M_thrown d x2 q75.2).bind fun q76 => (if q76.1 = q73.1 then (if q73.1 = 0 then ((xldL q76.2 x3 1 0).bind fun v77 => (if (lg_cmp v77 q75.1.toInt64) = 0 then (b_L_law_721 sc d k23 x1 x2 x3 x4 q76.2) else (if 0 = 0 ∨ 0 = 1 then some (0, q76.2) else none))) else (b_L_law_721 sc d k23 x1 x2 x3 x4 q76.2)) else (if 0 = 0 ∨ 0 = 1 then some (0, q76.2) else none))) else if (v1 &&& 15) = 7 then ((xsld sc (x4 + 1)).bind fun v78 => (xobj S x1 0).bind fun _ => (f_P_length d x1 v78 S).bind fun q79 => (xsld sc (x4 + 1)).bind fun v80 => (xobj q79.2 x2 5).bind fun _ => (f_M_length d x2 v80 q79.2).bind fun q81 => (if q79.1 = q81.1 then (b_L_law_1082 sc d k23 x1 x2 x3 x4 q81.2) else (if 0 = 0 ∨ 0 = 1 then some (0, q81.2) else none))) else if (v1 &&& 15) = 8 then ((xsld sc (x4 + 1)).bind fun v82 => (xsld sc (x4 + 2)).bind fun v83 => (xsld sc (x4 + 3)).bind fun v84 => (f_L_look d x1 v82 v83 v84 x3 S).bind fun q85 => (xsld sc (x4 + 1)).bind fun v86 => (xsld sc (x4 + 2)).bind fun v87 => (xsld sc (x4 + 3)).bind fun v88 => (xobj q85.2 x2 5).bind fun _ => (f_M_look d x2 v86 v87 v88 q85.2).bind fun q89 => (xobj q89.2 x2 5).bind fun _ => (f_M_thrown d x2 q89.2).bind fun q90 => (if q90.1 = q85.1 then (if q85.1 = 0 then ((xldL q90.2 x3 1 0).bind fun v91 => (if (lg_cmp v91 q89.1.toInt64) = 0 then (b_L_law_826 sc d k23 x1 x2 x3 x4 q90.2) else (if 0 = 0 ∨ 0 = 1 then some (0, q90.2) else none))) else (b_L_law_826 sc d k23 x1 x2 x3 x4 q90.2)) else (if 0 = 0 ∨ 0 = 1 then some (0, q90.2) else none))) else if (v1 &&& 15) = 9 then ((xsld sc (x4 + 1)).bind fun v92 => (xsld sc (x4 + 2)).bind fun v93 => (xsld sc (x4 + 3)).bind fun v94 => (f_L_piece d x1 v92 v93 v94 x3 S).bind fun q95 => (xsld sc (x4 + 1)).bind fun v96 => (xsld sc (x4 + 2)).bind fun v97 => (xsld sc (x4 + 3)).bind fun v98 => (xobj q95.2 x2 5).bind fun _ => (f_M_piece d x2 v96 v97 v98 q95.2).bind fun q99 => (xobj q99.2 x2 5).bind fun _ => (f_M_thrown d x2 q99.2).bind fun q100 => (if q100.1 = q95.1 then (if q95.1 = 0 then ((xldL q100.2 x3 1 0).bind fun v101 => (if (lg_cmp v101 q99.1.toInt64) = 0 then (b_L_law_906 sc d k23 x1 x2 x3 x4 q100.2) else (if 0 = 0 ∨ 0 = 1 then some (0, q100.2) else none))) else (b_L_law_906 sc d k23 x1 x2 x3 x4 q100.2)) else (if 0 = 0 ∨ 0 = 1 then some (0, q100.2) else none))) else if (v1 &&& 15) = 10 then ((xsld sc (x4 + 1)).bind fun v102 => (xsld sc (x4 + 2)).bind fun v103 => (xsld sc (x4 + 3)).bind fun v104 => (f_L_find d x1 v102 v103 v104 x3 S).bind fun q105 => (xsld sc (x4 + 1)).bind fun v106 => (xsld sc (x4 + 2)).bind fun v107 => (xsld sc (x4 + 3)).bind fun v108 => (xobj q105.2 x2 5).bind fun _ => (f_M_find d x2 v106 v107 v108 q105.2).bind fun q109 => (xobj q109.2 x2 5).bind fun _ => (f_M_thrown d x2 q109.2).bind fun q110 => (if q110.1 = q105.1 then (if q105.1 = 0 then ((xldL q110.2 x3 1 0).bind fun v111 => (if (lg_cmp v111 q109.1.toInt64) = 0 then (b_L_law_986 sc d k23 x1 x2 x3 x4 q110.2) else (if 0 = 0 ∨ 0 = 1 then some (0, q110.2) else none))) else (b_L_law_986 sc d k23 x1 x2 x3 x4 q110.2)) else (if 0 = 0 ∨ 0 = 1 then some (0, q110.2) else none))) else if (v1 &&& 15) = 11 then ((xsld sc (x4 + 1)).bind fun v112 => (xsld sc (x4 + 2)).bind fun v113 => (f_L_differ d x1 v112 v113 x3 S).bind fun q114 => (xsld sc (x4 + 1)).bind fun v115 => (xsld sc (x4 + 2)).bind fun v116 => (xobj q114.2 x2 5).bind fun _ => (f_M_differ d x2 v115 v116 q114.2).bind fun q117 => (xobj q117.2 x2 5).bind fun _ => (f_M_thrown d x2 q117.2).bind fun q118 => (if q118.1 = q114.1 then (if q114.1 = 0 then ((xldL q118.2 x3 1 0).bind fun v119 => (if (lg_cmp v119 q117.1.toInt64) = 0 then (b_L_law_1054 sc d k23 x1 x2 x3 x4 q118.2) else (if 0 = 0 ∨ 0 = 1 then some (0, q118.2) else none))) else (b_L_law_1054 sc d k23 x1 x2 x3 x4 q118.2)) else (if 0 = 0 ∨ 0 = 1 then some (0, q118.2) else none))) else if (v1 &&& 15) = 12 then ((xsld sc (x4 + 1)).bind fun v120 => (xobj S x1 0).bind fun _ => (f_P_count d x1 v120 S).bind fun q121 => (xsld sc (x4 + 1)).bind fun v122 => (xobj q121.2 x2 5).bind fun _ => (f_M_count d x2 v122 q121.2).bind fun q123 => (if q121.1 = q123.1 then (b_L_law_1082 sc d k23 x1 x2 x3 x4 q123.2) else (if 0 = 0 ∨ 0 = 1 then some (0, q123.2) else none))) else (b_L_law_1082 sc d k23 x1 x2 x3 x4 S))))
def l_L_law_23 (sc : Nat × Nat × (Nat → Int32)) (d : Nat) : Nat → (Option Nat → Option Nat → Option Nat → Int32 → xS → Option (Int32 × xS))
  | 0 => fun _ _ _ _ _ => none
  | n + 1 => fun x1 x2 x3 x4 S => b_L_law_23 sc d (l_L_law_23 sc d n) x1 x2 x3 x4 S
def e_L_law (sc : Nat × Nat × (Nat → Int32)) (d : Nat)  (S : xS) : Option (Int32 × xS) := (xnew S 0 [.null, .int 0, .null, .null]).bind fun q1 => (f_P_init d (some q1.1) q1.2).bind fun q2 => (xnew q2.2 5 [.int 0, .int 0, .null, .null, .null, .null, .null, .null]).bind fun q3 => (f_M_init d (some q3.1) q3.2).bind fun q4 => (xnewa q4.2 1 1 (.inr (.inl (fun _ => 0)))).bind fun q5 => l_L_law_23 sc d xN (some q1.1) (some q3.1) (some q5.1) 0 q5.2
def f_L_law (sc : Nat × Nat × (Nat → Int32)) : Nat → (xS → Option (Int32 × xS))
  | 0 => fun _ => none
  | d + 1 => fun S => e_L_law sc d S
