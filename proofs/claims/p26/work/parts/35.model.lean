/-! The reference's methods as functions alone: a ghost, that the class's state is told by. -/
def fX9_bits_4 : Nat → Int32 → Int64 → Option (Int32)
  | 0, _, _ => none
  | n + 1, a2, a3 =>
    (if a3 = (0 : Int64) then some a2 else fX9_bits_4 n (a2 + (1 : Int32)) (a3 &&& (a3 - (1 : Int64))))
def fX9_bits (a0 : Int64) : Option (Int32) :=
  fX9_bits_4 FU (0 : Int32) a0
def fX9_lowest (a0 : Int64) : Option (Int32) :=
  (fX9_bits ((a0 &&& (-a0)) - (1 : Int64))).bind fun q1 => some q1
def fX9_bit (a0 : Int32) : Option (Int64) :=
  some (x_shl (1 : Int64) a0)
def fX9_around (a0 : Int64) : Option (Int64) :=
  some (((((x_shl a0 (7 : Int32)) ||| (x_ushr a0 (7 : Int32))) ||| (x_shl (a0 &&& (-283691315109953 : Int64)) (1 : Int32))) ||| (x_ushr (a0 &&& (-4432676798594 : Int64)) (1 : Int32))) &&& (562949953421311 : Int64))
def fX9_flood_8 : Nat → Int64 → Int64 → Int64 → Option (Int64)
  | 0, _, _, _ => none
  | n + 1, a2, a4, a6 =>
    (if a4 = a6 then some a4 else (fX9_around a4).bind fun q2 => fX9_flood_8 n a2 (a4 ||| (q2 &&& a2)) a4)
def fX9_flood (a0 : Int64) (a2 : Int64) : Option (Int64) :=
  fX9_flood_8 FU a2 (a0 &&& a2) (0 : Int64)
def fX9_free (a0 : Int64) (a2 : Int64) (a4 : Int64) : Option (Int64) :=
  (fX9_around a0).bind fun q1 => some (q1 &&& ((a2 ||| a4) ^^^ (-1 : Int64)))
def fX9_dead_57 (k6 : Int64 → Int64 → Int64 → Int64 → Int64 → Option (Int64)) (a0 : Int64) (a2 : Int64) (a4 : Int64) (a6 : Int64) (s0 : Int64) (s1 : Int64) : Option (Int64) :=
  k6 a0 a2 a4 a6 (s0 ||| s1)
def fX9_dead_6 : Nat → Int64 → Int64 → Int64 → Int64 → Int64 → Option (Int64)
  | 0, _, _, _, _, _ => none
  | n + 1, a0, a2, a4, a6, a8 =>
    (if a6 = (0 : Int64) then some a8 else (fX9_flood (a6 &&& (-a6)) a0).bind fun q2 => (fX9_free q2 a2 a4).bind fun q3 => (if q3 = (0 : Int64) then fX9_dead_57 (fX9_dead_6 n) a0 a2 a4 (a6 &&& (q2 ^^^ (-1 : Int64))) a8 q2 else fX9_dead_57 (fX9_dead_6 n) a0 a2 a4 (a6 &&& (q2 ^^^ (-1 : Int64))) a8 (0 : Int64)))
def fX9_dead (a0 : Int64) (a2 : Int64) (a4 : Int64) : Option (Int64) :=
  fX9_dead_6 FU a0 a2 a4 a0 (0 : Int64)
def fX9_puts_121 (S : MS) (s1 : Int64) : Option (MS) :=
  some (ms_j S 26 s1)
def fX9_puts_105 (S : MS) (a5 : Int32) (a7 : Int64) (a9 : Int64) (s1 : Int64) : Option (MS) :=
  (if a5 = 0 then fX9_puts_121 (ms_j S 25 s1) a9 else fX9_puts_121 (ms_j S 25 s1) a7)
def fX9_puts_89 (S : MS) (a5 : Int32) (a7 : Int64) (a9 : Int64) (s1 : Int32) : Option (MS) :=
  (xbool s1).bind fun b1 => (if a5 = 0 then fX9_puts_105 (ms_i S 28 (bi b1)) a5 a7 a9 a7 else fX9_puts_105 (ms_i S 28 (bi b1)) a5 a7 a9 a9)
def fX9_puts_28 (S : MS) (a5 : Int32) (a6 : Int32) (a7 : Int64) (s0 : Int64) : Option (MS) :=
  (fX9_dead s0 a7 s0).bind fun q1 => (fX9_bits q1).bind fun q2 => (fX9_bit a6).bind fun q3 => (fX9_flood q3 a7).bind fun q4 => (fX9_free q4 a7 (s0 &&& (q1 ^^^ (-1 : Int64)))).bind fun q5 => (if q5 = (0 : Int64) then fX9_puts_89 (ms_i S 27 q2) a5 a7 (s0 &&& (q1 ^^^ (-1 : Int64))) (1 : Int32) else fX9_puts_89 (ms_i S 27 q2) a5 a7 (s0 &&& (q1 ^^^ (-1 : Int64))) (0 : Int32))
def fX9_puts_10 (S : MS) (a1 : Int64) (a3 : Int64) (a5 : Int32) (a6 : Int32) (s0 : Int64) : Option (MS) :=
  (fX9_bit a6).bind fun q1 => (if a5 = 0 then fX9_puts_28 S a5 a6 (s0 ||| q1) a3 else fX9_puts_28 S a5 a6 (s0 ||| q1) a1)
def fX9_puts (S : MS) (a1 : Int64) (a3 : Int64) (a5 : Int32) (a6 : Int32) : Option (MS) :=
  (if a5 = 0 then fX9_puts_10 S a1 a3 a5 a6 a1 else fX9_puts_10 S a1 a3 a5 a6 a3)
def fX9_allowed_49 (k7 : MS → Int64 → Int64 → Int32 → Int64 → Int64 → Option (Int64 × MS)) (S : MS) (a1 : Int64) (a3 : Int64) (a5 : Int32) (a10 : Int64) (s0 : Int64) (s1 : Int64) : Option (Int64 × MS) :=
  k7 S a1 a3 a5 (s0 ||| s1) (a10 &&& (a10 - (1 : Int64)))
def fX9_allowed_7 : Nat → MS → Int64 → Int64 → Int32 → Int64 → Int64 → Option (Int64 × MS)
  | 0, _, _, _, _, _, _ => none
  | n + 1, S, a1, a3, a5, a8, a10 =>
    (if a10 = (0 : Int64) then some (a8, S) else (fX9_lowest a10).bind fun q2 => (fX9_puts S a1 a3 a5 q2).bind fun q3 => (if (m_i q3 28) = 0 then (fX9_bit q2).bind fun q5 => fX9_allowed_49 (fX9_allowed_7 n) q3 a1 a3 a5 a10 a8 q5 else fX9_allowed_49 (fX9_allowed_7 n) q3 a1 a3 a5 a10 a8 (0 : Int64)))
def fX9_allowed (S : MS) (a1 : Int64) (a3 : Int64) (a5 : Int32) (a6 : Int64) : Option (Int64 × MS) :=
  fX9_allowed_7 FU S a1 a3 a5 (0 : Int64) a6
def fX9_apart (S : MS) (a1 : Int32) (a2 : Int32) : Option (Int32) :=
  (if xin a1 8 = true then (if xin a2 8 = true then (if (m_I S 1 a2.toNatClampNeg) ≤ (m_I S 1 a1.toNatClampNeg) then some ((m_I S 1 a1.toNatClampNeg) - (m_I S 1 a2.toNatClampNeg)) else some ((m_I S 1 a2.toNatClampNeg) - (m_I S 1 a1.toNatClampNeg))) else none) else none)
def fX9_chainAt_22 (s0 : Int64) (s1 : Int64) : Option (Int64) :=
  (fX9_flood s0 s1).bind fun q1 => some q1
def fX9_chainAt (a0 : Int64) (a2 : Int64) (a4 : Int32) : Option (Int64) :=
  (fX9_bit a4).bind fun q1 => (fX9_bit a4).bind fun q2 => (if (a0 &&& q2) = (0 : Int64) then fX9_chainAt_22 q1 a2 else fX9_chainAt_22 q1 a0)
def fX9_attacks (a1 : Int64) (a3 : Int64) (a5 : Int32) (a6 : Int32) : Option (Int64) :=
  (fX9_chainAt a1 a3 a5).bind fun q1 => (fX9_free q1 a1 a3).bind fun q2 => (fX9_bits q2).bind fun q3 => (if q3 ≤ a6 then (if a6 = (2 : Int32) then some q2 else (fX9_around q2).bind fun q6 => some (q2 ||| (q6 &&& ((a1 ||| a3) ^^^ (-1 : Int64))))) else some (0 : Int64))
def fX9_blackOf (S : MS) (a1 : Int32) (a2 : Int32) : Option (Int32) :=
  (if xin a2 8 = true then (if xin a1 8 = true then (if (m_I S 1 a1.toNatClampNeg) ≤ (m_I S 1 a2.toNatClampNeg) then some a1 else some a2) else none) else none)
def fX9_isIn (a0 : Int32) (a1 : Int32) (a2 : Int32) : Option (Bool) :=
  (if a0 < a1 then some false else (if a2 < a0 then some false else some true))
def fX9_isNode (S : MS) (a1 : Int32) : Option (Bool) :=
  (fX9_isIn a1 (0 : Int32) ((m_i S 36) - (1 : Int32))).bind fun q1 => some q1
def fX9_isPoint (a0 : Int32) : Option (Bool) :=
  (fX9_isIn a0 (0 : Int32) (48 : Int32)).bind fun q1 => some q1
def fX9_child_42 (k5 : MS → Int32 → Int32 → Int32 → Int32 → Option (Int32)) (S : MS) (a1 : Int32) (a2 : Int32) (a4 : Int32) (s0 : Int32) : Option (Int32) :=
  k5 S a1 a2 s0 (a4 + (1 : Int32))
def fX9_child_5 : Nat → MS → Int32 → Int32 → Int32 → Int32 → Option (Int32)
  | 0, _, _, _, _, _ => none
  | n + 1, S, a1, a2, a3, a4 =>
    (if (m_i S 36) ≤ a4 then some a3 else (if xin a4 60 = true then (if (m_I S 28 a4.toNatClampNeg) = a1 then (if (m_I S 30 a4.toNatClampNeg) = a2 then fX9_child_42 (fX9_child_5 n) S a1 a2 a4 a4 else fX9_child_42 (fX9_child_5 n) S a1 a2 a4 a3) else fX9_child_42 (fX9_child_5 n) S a1 a2 a4 a3) else none))
def fX9_child (S : MS) (a1 : Int32) (a2 : Int32) : Option (Int32) :=
  fX9_child_5 FU S a1 a2 (-1 : Int32) (0 : Int32)
def fX9_isEmpty (a1 : Int64) (a3 : Int64) (a5 : Int32) : Option (Bool) :=
  (fX9_bit a5).bind fun q1 => (if ((a1 ||| a3) &&& q1) = (0 : Int64) then some true else some false)
def fX9_position_15 : Nat → MS → Int32 → Int32 → Int32 → Option (Int32)
  | 0, _, _, _, _ => none
  | n + 1, S, a2, a3, a4 =>
    (if a4 ≤ a2 then some a3 else (if xin a3 4096 = true then fX9_position_15 n S a2 (m_I S 20 a3.toNatClampNeg) (a4 + (-1 : Int32)) else none))
def fX9_position (S : MS) (a1 : Int32) (a2 : Int32) : Option (Int32) :=
  (if xin a1 16 = true then fX9_position_15 FU S a2 (m_I S 11 a1.toNatClampNeg) (m_I S 12 a1.toNatClampNeg) else none)
def fX9_wasThere_47 (k6 : MS → Int64 → Int64 → Int32 → Int32 → Option (Bool)) (S : MS) (a2 : Int64) (a4 : Int64) (a7 : Int32) (s0 : Int32) : Option (Bool) :=
  (if xin a7 4096 = true then k6 S a2 a4 s0 (m_I S 20 a7.toNatClampNeg) else none)
def fX9_wasThere_6 : Nat → MS → Int64 → Int64 → Int32 → Int32 → Option (Bool)
  | 0, _, _, _, _, _ => none
  | n + 1, S, a2, a4, a6, a7 =>
    (if a7 = (-1 : Int32) then xbool a6 else (if a6 = 0 then (if xin a7 4096 = true then (if (m_J S 18 a7.toNatClampNeg) = a2 then (if (m_J S 19 a7.toNatClampNeg) = a4 then fX9_wasThere_47 (fX9_wasThere_6 n) S a2 a4 a7 (1 : Int32) else fX9_wasThere_47 (fX9_wasThere_6 n) S a2 a4 a7 (0 : Int32)) else fX9_wasThere_47 (fX9_wasThere_6 n) S a2 a4 a7 (0 : Int32)) else none) else fX9_wasThere_47 (fX9_wasThere_6 n) S a2 a4 a7 (1 : Int32)))
def fX9_wasThere (S : MS) (a1 : Int32) (a2 : Int64) (a4 : Int64) : Option (Bool) :=
  fX9_wasThere_6 FU S a2 a4 (0 : Int32) a1
def fX9_canBranch_112 (k66 : MS → Int32 → Int32 → Int32 → Option (Bool × MS)) (S : MS) (a1 : Int32) (a8 : Int32) (s0 : Int32) : Option (Bool × MS) :=
  (if xin a8 60 = true then k66 S a1 s0 (m_I S 28 a8.toNatClampNeg) else none)
def fX9_canBranch_66 : Nat → MS → Int32 → Int32 → Int32 → Option (Bool × MS)
  | 0, _, _, _, _ => none
  | n + 1, S, a1, a7, a8 =>
    (if a8 = (-1 : Int32) then (if xin a1 60 = true then (if (m_i S 28) = 0 then (if a7 = 0 then (if xin (m_I S 29 a1.toNatClampNeg) 60 = true then (fX9_position S (m_I S 31 (m_I S 29 a1.toNatClampNeg).toNatClampNeg) (m_I S 32 (m_I S 29 a1.toNatClampNeg).toNatClampNeg)).bind fun q6 => (fX9_wasThere S q6 (m_j S 25) (m_j S 26)).bind fun q7 => (if q7 = false then some (true, S) else some (false, S)) else none) else some (false, S)) else some (false, S)) else none) else (if a7 = 0 then (if xin a8 60 = true then (if (m_J S 34 a8.toNatClampNeg) = (m_j S 25) then (if (m_J S 35 a8.toNatClampNeg) = (m_j S 26) then fX9_canBranch_112 (fX9_canBranch_66 n) S a1 a8 (1 : Int32) else fX9_canBranch_112 (fX9_canBranch_66 n) S a1 a8 (0 : Int32)) else fX9_canBranch_112 (fX9_canBranch_66 n) S a1 a8 (0 : Int32)) else none) else fX9_canBranch_112 (fX9_canBranch_66 n) S a1 a8 (1 : Int32)))
def fX9_canBranch (S : MS) (a1 : Int32) (a2 : Int32) : Option (Bool × MS) :=
  (if xin a1 60 = true then (if a2 = (-1 : Int32) then (some (ms_j (ms_j S 25 (m_J S 34 a1.toNatClampNeg)) 26 (m_J S 35 a1.toNatClampNeg))).bind fun W6 => some (true, W6) else (fX9_isEmpty (m_J S 34 a1.toNatClampNeg) (m_J S 35 a1.toNatClampNeg) a2).bind fun q3 => (if q3 = false then some (false, S) else (fX9_puts S (m_J S 34 a1.toNatClampNeg) (m_J S 35 a1.toNatClampNeg) (m_I S 33 a1.toNatClampNeg) a2).bind fun q5 => fX9_canBranch_66 FU q5 a1 (0 : Int32) a1)) else none)
def fX9_fails (S : MS) (a1 : Int32) : Option (Bool × MS) :=
  (if a1 ≤ 0 then some (false, (ms_i S 47 a1)) else some (true, (ms_i S 47 a1)))
def fX9_makes_78 (S : MS) (s1 : Int32) (s2 : Int32) : Option (Int32 × MS) :=
  (if xin s1 60 = true then (some (ms_i (ms_I S 29 s1.toNatClampNeg s2) 36 ((m_i (ms_I S 29 s1.toNatClampNeg s2) 36) + (1 : Int32)))).bind fun W2 => some (((m_i W2 36) - (1 : Int32)), W2) else none)
def fX9_makes (S : MS) (a1 : Int32) (a2 : Int32) (a3 : Int64) (a5 : Int64) (a7 : Int32) : Option (Int32 × MS) :=
  (if xin (m_i S 36) 60 = true then (if xin (m_i (ms_I S 28 (m_i S 36).toNatClampNeg a1) 36) 60 = true then (some (ms_I (ms_I S 28 (m_i S 36).toNatClampNeg a1) 30 (m_i (ms_I S 28 (m_i S 36).toNatClampNeg a1) 36).toNatClampNeg a2)).bind fun W3 => (if xin (m_i W3 36) 60 = true then (if xin (m_i (ms_J W3 34 (m_i W3 36).toNatClampNeg a3) 36) 60 = true then (some (ms_J (ms_J W3 34 (m_i W3 36).toNatClampNeg a3) 35 (m_i (ms_J W3 34 (m_i W3 36).toNatClampNeg a3) 36).toNatClampNeg a5)).bind fun W6 => (if xin (m_i W6 36) 60 = true then (if a1 = (-1 : Int32) then fX9_makes_78 (ms_I W6 33 (m_i W6 36).toNatClampNeg a7) (m_i (ms_I W6 33 (m_i W6 36).toNatClampNeg a7) 36) (m_i (ms_I W6 33 (m_i W6 36).toNatClampNeg a7) 36) else (if xin a1 60 = true then fX9_makes_78 (ms_I W6 33 (m_i W6 36).toNatClampNeg a7) (m_i (ms_I W6 33 (m_i W6 36).toNatClampNeg a7) 36) (m_I (ms_I W6 33 (m_i W6 36).toNatClampNeg a7) 29 a1.toNatClampNeg) else none)) else none) else none) else none) else none) else none)
def fX9_branch_80 (S : MS) (a1 : Int32) (a2 : Int32) (a4 : Int32) (s1 : Int32) : Option (Int32 × MS) :=
  (fX9_fails S s1).bind fun q1 => (if q1.1 = false then (if a4 = (-1 : Int32) then (if xin a1 60 = true then (fX9_makes q1.2 a1 a2 (m_j q1.2 25) (m_j q1.2 26) ((1 : Int32) - (m_I q1.2 33 a1.toNatClampNeg))).bind fun q5 => some (q5.1, q5.2) else none) else some (a4, q1.2)) else some ((0 : Int32), q1.2))
def fX9_branch_40 (S : MS) (a1 : Int32) (a2 : Int32) (a3 : Int32) (s0 : Int32) : Option (Int32 × MS) :=
  (if a3 = 0 then fX9_branch_80 S a1 a2 s0 (1 : Int32) else (if s0 = (-1 : Int32) then (if (m_i S 36) = (60 : Int32) then fX9_branch_80 S a1 a2 s0 (2 : Int32) else (fX9_canBranch S a1 a2).bind fun q4 => (if q4.1 = false then fX9_branch_80 q4.2 a1 a2 s0 (2 : Int32) else fX9_branch_80 q4.2 a1 a2 s0 (0 : Int32))) else fX9_branch_80 S a1 a2 s0 (0 : Int32)))
def fX9_branch_25 (S : MS) (a1 : Int32) (a2 : Int32) (s0 : Int32) : Option (Int32 × MS) :=
  (if s0 = 0 then fX9_branch_40 S a1 a2 s0 (-1 : Int32) else (fX9_child S a1 a2).bind fun q2 => fX9_branch_40 S a1 a2 s0 q2)
def fX9_branch (S : MS) (a1 : Int32) (a2 : Int32) : Option (Int32 × MS) :=
  (fX9_isNode S a1).bind fun q1 => (if q1 = false then fX9_branch_25 S a1 a2 (0 : Int32) else (if a2 = (-1 : Int32) then fX9_branch_25 S a1 a2 (1 : Int32) else (fX9_isPoint a2).bind fun q4 => (if q4 = false then fX9_branch_25 S a1 a2 (0 : Int32) else fX9_branch_25 S a1 a2 (1 : Int32))))
def fX9_sideOf_15 (S : MS) (a2 : Int32) (s0 : Int32) : Option (Int32) :=
  some ((s0 + a2) - (s0 + a2) / (2 : Int32) * (2 : Int32))
def fX9_sideOf (S : MS) (a1 : Int32) (a2 : Int32) : Option (Int32) :=
  (if xin a1 16 = true then (if (m_I S 7 a1.toNatClampNeg) ≤ (1 : Int32) then fX9_sideOf_15 S a2 (0 : Int32) else fX9_sideOf_15 S a2 (1 : Int32)) else none)
def fX9_canPlay (S : MS) (a1 : Int32) (a2 : Int32) : Option (Bool × MS) :=
  (if xin a1 16 = true then (if xin (m_I S 11 a1.toNatClampNeg) 4096 = true then (if (m_I S 8 a1.toNatClampNeg) = 0 then (fX9_isEmpty (m_J S 18 (m_I S 11 a1.toNatClampNeg).toNatClampNeg) (m_J S 19 (m_I S 11 a1.toNatClampNeg).toNatClampNeg) a2).bind fun q4 => (if q4 = false then some (false, S) else (fX9_sideOf S a1 (m_I S 12 a1.toNatClampNeg)).bind fun q6 => (fX9_puts S (m_J S 18 (m_I S 11 a1.toNatClampNeg).toNatClampNeg) (m_J S 19 (m_I S 11 a1.toNatClampNeg).toNatClampNeg) q6 a2).bind fun q7 => (if (m_i q7 28) = 0 then (fX9_wasThere q7 (m_I q7 11 a1.toNatClampNeg) (m_j q7 25) (m_j q7 26)).bind fun q9 => (if q9 = false then some (true, q7) else some (false, q7)) else some (false, q7))) else some (false, S)) else none) else none)
def fX9_libertiesAt (a1 : Int64) (a3 : Int64) (a5 : Int32) : Option (Int32) :=
  (fX9_chainAt a1 a3 a5).bind fun q1 => (fX9_free q1 a1 a3).bind fun q2 => (fX9_bits q2).bind fun q3 => some q3
def fX9_replies_97 (k40 : Int64 → Int64 → Int64 → Int64 → Int64 → Option (Int64)) (a1 : Int64) (a3 : Int64) (a9 : Int64) (a13 : Int64) (s0 : Int64) (s1 : Int64) : Option (Int64) :=
  k40 a1 a3 a9 (s0 ||| s1) a13
def fX9_replies_40 : Nat → Int64 → Int64 → Int64 → Int64 → Int64 → Option (Int64)
  | 0, _, _, _, _, _ => none
  | n + 1, a1, a3, a9, a11, a13 =>
    (if a13 = (0 : Int64) then some a11 else (fX9_flood (a13 &&& (-a13)) a9).bind fun q2 => (fX9_free q2 a1 a3).bind fun q3 => (fX9_bits q3).bind fun q4 => (if q4 = (1 : Int32) then fX9_replies_97 (fX9_replies_40 n) a1 a3 a9 (a13 &&& (q2 ^^^ (-1 : Int64))) a11 q3 else fX9_replies_97 (fX9_replies_40 n) a1 a3 a9 (a13 &&& (q2 ^^^ (-1 : Int64))) a11 (0 : Int64)))
def fX9_replies_19 (a1 : Int64) (a3 : Int64) (a7 : Int64) (s0 : Int64) : Option (Int64) :=
  (fX9_free a7 a1 a3).bind fun q1 => (fX9_around a7).bind fun q2 => fX9_replies_40 FU a1 a3 s0 q1 (q2 &&& s0)
def fX9_replies (a1 : Int64) (a3 : Int64) (a5 : Int32) (a6 : Int32) : Option (Int64) :=
  (fX9_chainAt a1 a3 a5).bind fun q1 => (if a6 = 0 then fX9_replies_19 a1 a3 q1 a3 else fX9_replies_19 a1 a3 q1 a1)
def fX9_catches_528 (k39 : MS → Int32 → Int32 → Int32 → Int32 → Int32 → Int32 → Option (Bool × MS)) (S : MS) (a5 : Int32) (a6 : Int32) (a7 : Int32) (a8 : Int32) (a9 : Int32) (a10 : Int32) : Option (Bool × MS) :=
  k39 S a5 a6 a7 a8 a9 a10
def fX9_catches_526 (k39 : MS → Int32 → Int32 → Int32 → Int32 → Int32 → Int32 → Option (Bool × MS)) (S : MS) (a5 : Int32) (a6 : Int32) (a7 : Int32) (a8 : Int32) (a9 : Int32) (s0 : Int32) : Option (Bool × MS) :=
  fX9_catches_528 k39 S a5 a6 a7 a8 a9 s0
def fX9_catches_456 (k39 : MS → Int32 → Int32 → Int32 → Int32 → Int32 → Int32 → Option (Bool × MS)) (S : MS) (a5 : Int32) (a6 : Int32) (a7 : Int32) (a8 : Int32) (a9 : Int32) : Option (Bool × MS) :=
  (if xin a9 10 = true then (if xin (a9 + (1 : Int32)) 10 = true then (some (ms_J (ms_I S 27 a9.toNatClampNeg (0 : Int32)) 21 (a9 + (1 : Int32)).toNatClampNeg (m_j (ms_I S 27 a9.toNatClampNeg (0 : Int32)) 25))).bind fun W3 => fX9_catches_528 k39 (ms_J W3 22 (a9 + (1 : Int32)).toNatClampNeg (m_j W3 26)) a5 a6 a7 a8 (a9 + (1 : Int32)) (0 : Int32) else none) else none)
def fX9_catches_375 (k39 : MS → Int32 → Int32 → Int32 → Int32 → Int32 → Int32 → Option (Bool × MS)) (S : MS) (a5 : Int32) (a6 : Int32) (a7 : Int32) (a8 : Int32) (a9 : Int32) : Option (Bool × MS) :=
  (if xin a9 10 = true then (some (ms_j (ms_j S 25 (m_J S 24 a9.toNatClampNeg)) 26 (m_J (ms_j S 25 (m_J S 24 a9.toNatClampNeg)) 25 a9.toNatClampNeg))).bind fun W2 => (if (m_I W2 27 a9.toNatClampNeg) = 0 then (fX9_lowest (m_J W2 26 a9.toNatClampNeg)).bind fun q4 => (fX9_puts W2 (m_J W2 24 a9.toNatClampNeg) (m_J W2 25 a9.toNatClampNeg) a8 q4).bind fun q5 => (some (ms_J q5 26 a9.toNatClampNeg ((m_J q5 26 a9.toNatClampNeg) &&& ((m_J q5 26 a9.toNatClampNeg) - (1 : Int64))))).bind fun W6 => fX9_catches_456 k39 W6 a5 a6 a7 a8 a9 else fX9_catches_456 k39 W2 a5 a6 a7 a8 a9) else none)
def fX9_catches_334 (k39 : MS → Int32 → Int32 → Int32 → Int32 → Int32 → Int32 → Option (Bool × MS)) (S : MS) (a5 : Int32) (a6 : Int32) (a7 : Int32) (a8 : Int32) (a9 : Int32) (s1 : Int32) (s2 : Int32) : Option (Bool × MS) :=
  (if xin s1 10 = true then (xbool s2).bind fun b2 => fX9_catches_528 k39 (ms_I S 27 s1.toNatClampNeg (bi b2)) a5 a6 a7 a8 a9 (2 : Int32) else none)
def fX9_catches_252 (k39 : MS → Int32 → Int32 → Int32 → Int32 → Int32 → Int32 → Option (Bool × MS)) (S : MS) (a5 : Int32) (a6 : Int32) (a7 : Int32) (a8 : Int32) (a9 : Int32) : Option (Bool × MS) :=
  (if xin a9 10 = true then (some (ms_J (ms_J S 24 a9.toNatClampNeg (m_j S 25)) 25 a9.toNatClampNeg (m_j (ms_J S 24 a9.toNatClampNeg (m_j S 25)) 26))).bind fun W2 => (fX9_replies (m_j W2 25) (m_j W2 26) a5 a8).bind fun q3 => (fX9_allowed W2 (m_j W2 25) (m_j W2 26) a8 q3).bind fun q4 => (if (m_J (ms_J q4.2 26 a9.toNatClampNeg q4.1) 26 a9.toNatClampNeg) = (0 : Int64) then fX9_catches_334 k39 (ms_J q4.2 26 a9.toNatClampNeg q4.1) a5 a6 a7 a8 a9 a9 (1 : Int32) else fX9_catches_334 k39 (ms_J q4.2 26 a9.toNatClampNeg q4.1) a5 a6 a7 a8 a9 a9 (0 : Int32)) else none)
def fX9_catches_232 (k39 : MS → Int32 → Int32 → Int32 → Int32 → Int32 → Int32 → Option (Bool × MS)) (S : MS) (a5 : Int32) (a6 : Int32) (a7 : Int32) (a8 : Int32) (a9 : Int32) (a10 : Int32) (s0 : Int32) : Option (Bool × MS) :=
  (if s0 = (1 : Int32) then fX9_catches_252 k39 S a5 a6 a7 a8 a9 else (if s0 ≤ (1 : Int32) then fX9_catches_528 k39 S a5 a6 a7 a8 a9 a10 else (if a7 ≤ (2 : Int32) then fX9_catches_528 k39 S a5 a6 a7 a8 a9 a10 else fX9_catches_252 k39 S a5 a6 a7 a8 a9)))
def fX9_catches_123 (k39 : MS → Int32 → Int32 → Int32 → Int32 → Int32 → Int32 → Option (Bool × MS)) (S : MS) (a5 : Int32) (a6 : Int32) (a7 : Int32) (a8 : Int32) (a9 : Int32) (s0 : Int32) : Option (Bool × MS) :=
  fX9_catches_528 k39 S a5 a6 a7 a8 a9 s0
def fX9_catches_111 (k39 : MS → Int32 → Int32 → Int32 → Int32 → Int32 → Int32 → Option (Bool × MS)) (S : MS) (a5 : Int32) (a6 : Int32) (a7 : Int32) (a8 : Int32) (a9 : Int32) (a12 : Int32) (s1 : Int32) (s2 : Int64) : Option (Bool × MS) :=
  (if xin s1 10 = true then (if a12 = (1 : Int32) then fX9_catches_123 k39 (ms_J S 23 s1.toNatClampNeg s2) a5 a6 a7 a8 a9 (3 : Int32) else fX9_catches_123 k39 (ms_J S 23 s1.toNatClampNeg s2) a5 a6 a7 a8 a9 (1 : Int32)) else none)
def fX9_catches_39 : Nat → MS → Int32 → Int32 → Int32 → Int32 → Int32 → Int32 → Option (Bool × MS)
  | 0, _, _, _, _, _, _, _ => none
  | n + 1, S, a5, a6, a7, a8, a9, a10 =>
    (if a10 = 0 then (if xin a9 10 = true then (fX9_libertiesAt (m_J S 21 a9.toNatClampNeg) (m_J S 22 a9.toNatClampNeg) a5).bind fun q18 => (if (a6 - a9) ≤ (1 : Int32) then fX9_catches_111 (fX9_catches_39 n) S a5 a6 a7 a8 a9 q18 a9 (0 : Int64) else (fX9_attacks (m_J S 21 a9.toNatClampNeg) (m_J S 22 a9.toNatClampNeg) a5 a7).bind fun q20 => fX9_catches_111 (fX9_catches_39 n) S a5 a6 a7 a8 a9 q18 a9 q20) else none) else (if a10 = (1 : Int32) then (if xin a9 10 = true then (if (m_J S 23 a9.toNatClampNeg) = (0 : Int64) then fX9_catches_528 (fX9_catches_39 n) S a5 a6 a7 a8 a9 (4 : Int32) else (fX9_lowest (m_J S 23 a9.toNatClampNeg)).bind fun q12 => (some (ms_J S 23 a9.toNatClampNeg ((m_J S 23 a9.toNatClampNeg) &&& ((m_J S 23 a9.toNatClampNeg) - (1 : Int64))))).bind fun W13 => (fX9_puts W13 (m_J W13 21 a9.toNatClampNeg) (m_J W13 22 a9.toNatClampNeg) ((1 : Int32) - a8) q12).bind fun q14 => (if (m_i q14 28) = 0 then (fX9_libertiesAt (m_j q14 25) (m_j q14 26) a5).bind fun q16 => fX9_catches_232 (fX9_catches_39 n) q14 a5 a6 a7 a8 a9 a10 q16 else fX9_catches_232 (fX9_catches_39 n) q14 a5 a6 a7 a8 a9 a10 (0 : Int32))) else none) else (if a10 = (2 : Int32) then (if xin a9 10 = true then (if (m_J S 26 a9.toNatClampNeg) = (0 : Int64) then (if (m_I S 27 a9.toNatClampNeg) = 0 then fX9_catches_528 (fX9_catches_39 n) S a5 a6 a7 a8 a9 (3 : Int32) else fX9_catches_375 (fX9_catches_39 n) S a5 a6 a7 a8 a9) else fX9_catches_375 (fX9_catches_39 n) S a5 a6 a7 a8 a9) else none) else (if a9 = 0 then (if a10 = (3 : Int32) then some (true, S) else some (false, S)) else (if a10 = (3 : Int32) then fX9_catches_526 (fX9_catches_39 n) S a5 a6 a7 a8 (a9 + (-1 : Int32)) (2 : Int32) else fX9_catches_526 (fX9_catches_39 n) S a5 a6 a7 a8 (a9 + (-1 : Int32)) (1 : Int32))))))
def fX9_catches_17 (S : MS) (a1 : Int64) (a3 : Int64) (a5 : Int32) (a6 : Int32) (a7 : Int32) (s0 : Int32) : Option (Bool × MS) :=
  (some (ms_J (ms_J S 21 (0 : Int32).toNatClampNeg a1) 22 (0 : Int32).toNatClampNeg a3)).bind fun W1 => fX9_catches_39 FU W1 a5 a6 a7 s0 (0 : Int32) (0 : Int32)
def fX9_catches (S : MS) (a1 : Int64) (a3 : Int64) (a5 : Int32) (a6 : Int32) (a7 : Int32) : Option (Bool × MS) :=
  (fX9_bit a5).bind fun q1 => (if (a1 &&& q1) = (0 : Int64) then fX9_catches_17 S a1 a3 a5 a6 a7 (1 : Int32) else fX9_catches_17 S a1 a3 a5 a6 a7 (0 : Int32))
def fX9_isGame (S : MS) (a1 : Int32) : Option (Bool) :=
  (fX9_isIn a1 (0 : Int32) ((m_i S 4) - (1 : Int32))).bind fun q1 => some q1
def fX9_clock_33 (S : MS) (a1 : Int32) (a2 : Int32) (s1 : Int32) : Option (Int32 × MS) :=
  (fX9_fails S s1).bind fun q1 => (if q1.1 = false then (if xin (((2 : Int32) * a1) + a2) 32 = true then some ((((10 : Int32) * (m_I q1.2 14 (((2 : Int32) * a1) + a2).toNatClampNeg)) + (m_I q1.2 15 (((2 : Int32) * a1) + a2).toNatClampNeg)), q1.2) else none) else some ((0 : Int32), q1.2))
def fX9_clock_22 (S : MS) (a1 : Int32) (a2 : Int32) (s0 : Int32) : Option (Int32 × MS) :=
  (if s0 = 0 then fX9_clock_33 S a1 a2 (1 : Int32) else fX9_clock_33 S a1 a2 (0 : Int32))
def fX9_clock (S : MS) (a1 : Int32) (a2 : Int32) : Option (Int32 × MS) :=
  (fX9_isGame S a1).bind fun q1 => (if q1 = false then fX9_clock_22 S a1 a2 (0 : Int32) else (fX9_isIn a2 (0 : Int32) (1 : Int32)).bind fun q3 => (if q3 = false then fX9_clock_22 S a1 a2 (0 : Int32) else fX9_clock_22 S a1 a2 (1 : Int32)))
def fX9_grows_132 (S : MS) (a1 : Int32) (s1 : Int32) (s2 : Int32) (s3 : Int32) : Option (MS) :=
  (if xin s1 8 = true then (if xin a1 8 = true then (some (ms_I (ms_I S 1 s1.toNatClampNeg (s2 - s3)) 2 a1.toNatClampNeg (0 : Int32))).bind fun W3 => some W3 else none) else none)
def fX9_grows_88 (S : MS) (a1 : Int32) (s1 : Int32) (s2 : Int32) (s3 : Int32) : Option (MS) :=
  (if xin s1 8 = true then (if xin a1 8 = true then (some (ms_I (ms_I S 1 s1.toNatClampNeg (s2 + s3)) 2 a1.toNatClampNeg (0 : Int32))).bind fun W3 => some W3 else none) else none)
def fX9_grows_54 (S : MS) (a1 : Int32) (s1 : Int32) (s2 : Int32) : Option (MS) :=
  (if xin s1 8 = true then (if xin a1 8 = true then (if (m_I (ms_I S 2 s1.toNatClampNeg s2) 2 a1.toNatClampNeg) = (3 : Int32) then (if (20 : Int32) ≤ (m_I (ms_I S 2 s1.toNatClampNeg s2) 1 a1.toNatClampNeg) then fX9_grows_88 (ms_I S 2 s1.toNatClampNeg s2) a1 a1 (m_I (ms_I S 2 s1.toNatClampNeg s2) 1 a1.toNatClampNeg) (0 : Int32) else fX9_grows_88 (ms_I S 2 s1.toNatClampNeg s2) a1 a1 (m_I (ms_I S 2 s1.toNatClampNeg s2) 1 a1.toNatClampNeg) (1 : Int32)) else (if (m_I (ms_I S 2 s1.toNatClampNeg s2) 2 a1.toNatClampNeg) = (-3 : Int32) then (if (m_I (ms_I S 2 s1.toNatClampNeg s2) 1 a1.toNatClampNeg) ≤ 0 then fX9_grows_132 (ms_I S 2 s1.toNatClampNeg s2) a1 a1 (m_I (ms_I S 2 s1.toNatClampNeg s2) 1 a1.toNatClampNeg) (0 : Int32) else fX9_grows_132 (ms_I S 2 s1.toNatClampNeg s2) a1 a1 (m_I (ms_I S 2 s1.toNatClampNeg s2) 1 a1.toNatClampNeg) (1 : Int32)) else some (ms_I S 2 s1.toNatClampNeg s2))) else none) else none)
def fX9_grows (S : MS) (a1 : Int32) (a2 : Int32) : Option (MS) :=
  (if a2 = 0 then (if xin a1 8 = true then (if 0 ≤ (m_I S 2 a1.toNatClampNeg) then fX9_grows_54 S a1 a1 (-1 : Int32) else fX9_grows_54 S a1 a1 ((m_I S 2 a1.toNatClampNeg) - (1 : Int32))) else none) else (if xin a1 8 = true then (if (m_I S 2 a1.toNatClampNeg) ≤ 0 then fX9_grows_54 S a1 a1 (1 : Int32) else fX9_grows_54 S a1 a1 ((m_I S 2 a1.toNatClampNeg) + (1 : Int32))) else none))
def fX9_counts_47 (S : MS) (s1 : Int32) (s2 : Int32) : Option (MS) :=
  (fX9_grows S s1 s2).bind fun q1 => some q1
def fX9_counts_22 (S : MS) (a1 : Int32) (s1 : Int32) (s2 : Int32) : Option (MS) :=
  (fX9_grows S s1 s2).bind fun q1 => (if xin a1 16 = true then (if (m_I q1 8 a1.toNatClampNeg) = (2 : Int32) then fX9_counts_47 q1 (m_I q1 6 a1.toNatClampNeg) (1 : Int32) else fX9_counts_47 q1 (m_I q1 6 a1.toNatClampNeg) (0 : Int32)) else none)
def fX9_counts (S : MS) (a1 : Int32) : Option (MS) :=
  (if xin a1 16 = true then (if (m_I S 8 a1.toNatClampNeg) = (1 : Int32) then fX9_counts_22 S a1 (m_I S 5 a1.toNatClampNeg) (1 : Int32) else fX9_counts_22 S a1 (m_I S 5 a1.toNatClampNeg) (0 : Int32)) else none)
def fX9_finds_66 (k37 : MS → Int32 → Int32 → Option (MS)) (S : MS) (a1 : Int32) (a2 : Int32) : Option (MS) :=
  k37 S a1 (a2 + (1 : Int32))
def fX9_finds_37 : Nat → MS → Int32 → Int32 → Option (MS)
  | 0, _, _, _ => none
  | n + 1, S, a1, a2 =>
    (if a1 ≤ a2 then some S else (if xin a2 16 = true then (if xin (m_I S 17 a2.toNatClampNeg) 16 = true then (if (m_I S 9 (m_I S 17 a2.toNatClampNeg).toNatClampNeg) = 0 then (fX9_counts S (m_I S 17 a2.toNatClampNeg)).bind fun q5 => fX9_finds_66 (fX9_finds_37 n) q5 a1 a2 else fX9_finds_66 (fX9_finds_37 n) S a1 a2) else none) else none))
def fX9_finds_2 : Nat → MS → Int32 → Int32 → Option (MS)
  | 0, _, _, _ => none
  | n + 1, S, a1, a2 =>
    (if (m_i S 0) ≤ a2 then fX9_finds_37 FU S a1 (0 : Int32) else (if xin a2 8 = true then (some (ms_I (ms_I S 1 a2.toNatClampNeg (m_I S 0 a2.toNatClampNeg)) 2 a2.toNatClampNeg (0 : Int32))).bind fun W3 => fX9_finds_2 n W3 a1 (a2 + (1 : Int32)) else none))
def fX9_finds (S : MS) (a1 : Int32) : Option (MS) :=
  fX9_finds_2 FU S a1 (0 : Int32)
def fX9_handicapOf (S : MS) (a1 : Int32) (a2 : Int32) : Option (Int32) :=
  (fX9_apart S a1 a2).bind fun q1 => (if q1 ≤ (4 : Int32) then (fX9_apart S a1 a2).bind fun q3 => some q3 else some (4 : Int32))
def fX9_dueOf (S : MS) (a1 : Int32) : Option (Int32 × MS) :=
  (if xin a1 16 = true then (fX9_finds S (m_I S 10 a1.toNatClampNeg)).bind fun q2 => (fX9_blackOf q2 (m_I q2 3 a1.toNatClampNeg) (m_I q2 4 a1.toNatClampNeg)).bind fun q3 => (fX9_blackOf q2 (m_I q2 3 a1.toNatClampNeg) (m_I q2 4 a1.toNatClampNeg)).bind fun q4 => (fX9_handicapOf q2 (m_I q2 3 a1.toNatClampNeg) (m_I q2 4 a1.toNatClampNeg)).bind fun q5 => (fX9_finds q2 (m_i q2 19)).bind fun q6 => some (((((100 : Int32) * q3) + ((10 : Int32) * (((m_I q2 3 a1.toNatClampNeg) + (m_I q2 4 a1.toNatClampNeg)) - q4))) + q5), q6) else none)
def fX9_due_14 (S : MS) (a1 : Int32) (s1 : Int32) : Option (Int32 × MS) :=
  (fX9_fails S s1).bind fun q1 => (if q1.1 = false then (fX9_dueOf q1.2 a1).bind fun q3 => some (q3.1, q3.2) else some ((0 : Int32), q1.2))
def fX9_due (S : MS) (a1 : Int32) : Option (Int32 × MS) :=
  (fX9_isGame S a1).bind fun q1 => (if q1 = false then fX9_due_14 S a1 (1 : Int32) else fX9_due_14 S a1 (0 : Int32))
def fX9_ends (S : MS) (a1 : Int32) (a2 : Int32) : Option (MS) :=
  (if xin a1 16 = true then (if xin (m_i (ms_I S 8 a1.toNatClampNeg (a2 + (1 : Int32))) 19) 16 = true then (some (ms_I (ms_I S 8 a1.toNatClampNeg (a2 + (1 : Int32))) 17 (m_i (ms_I S 8 a1.toNatClampNeg (a2 + (1 : Int32))) 19).toNatClampNeg a1)).bind fun W3 => (fX9_counts (ms_i W3 19 ((m_i W3 19) + (1 : Int32))) a1).bind fun q4 => some q4 else none) else none)
def fX9_libertiesOf_21 (S : MS) (a1 : Int32) (a2 : Int32) (s1 : Int32) : Option (Int32 × MS) :=
  (fX9_fails S s1).bind fun q1 => (if q1.1 = false then (if xin a1 16 = true then (if xin (m_I q1.2 11 a1.toNatClampNeg) 4096 = true then (fX9_chainAt (m_J q1.2 18 (m_I q1.2 11 a1.toNatClampNeg).toNatClampNeg) (m_J q1.2 19 (m_I q1.2 11 a1.toNatClampNeg).toNatClampNeg) a2).bind fun q5 => (fX9_free q5 (m_J q1.2 18 (m_I q1.2 11 a1.toNatClampNeg).toNatClampNeg) (m_J q1.2 19 (m_I q1.2 11 a1.toNatClampNeg).toNatClampNeg)).bind fun q6 => (fX9_bits q6).bind fun q7 => some (q7, q1.2) else none) else none) else some ((0 : Int32), q1.2))
def fX9_libertiesOf (S : MS) (a1 : Int32) (a2 : Int32) : Option (Int32 × MS) :=
  (fX9_isGame S a1).bind fun q1 => (if q1 = false then fX9_libertiesOf_21 S a1 a2 (1 : Int32) else (fX9_isPoint a2).bind fun q3 => (if q3 = false then fX9_libertiesOf_21 S a1 a2 (1 : Int32) else fX9_libertiesOf_21 S a1 a2 (0 : Int32)))
def fX9_flooded (S : MS) (a1 : Int32) (a2 : Int32) : Option (Int32 × MS) :=
  (fX9_libertiesOf S a1 a2).bind fun q1 => some (q1.1, q1.2)
def fX9_isPlayer (S : MS) (a1 : Int32) : Option (Bool) :=
  (fX9_isIn a1 (0 : Int32) ((m_i S 0) - (1 : Int32))).bind fun q1 => some q1
def fX9_plays_50 (k4 : MS → Int32 → Int32 → Int32 → Option (Bool)) (S : MS) (a1 : Int32) (a3 : Int32) (s0 : Int32) : Option (Bool) :=
  k4 S a1 s0 (a3 + (1 : Int32))
def fX9_plays_4 : Nat → MS → Int32 → Int32 → Int32 → Option (Bool)
  | 0, _, _, _, _ => none
  | n + 1, S, a1, a2, a3 =>
    (if (m_i S 4) ≤ a3 then xbool a2 else (if a2 = 0 then (if xin a3 16 = true then (if (m_I S 8 a3.toNatClampNeg) = 0 then (if (m_I S 3 a3.toNatClampNeg) = a1 then fX9_plays_50 (fX9_plays_4 n) S a1 a3 (1 : Int32) else (if (m_I S 4 a3.toNatClampNeg) = a1 then fX9_plays_50 (fX9_plays_4 n) S a1 a3 (1 : Int32) else fX9_plays_50 (fX9_plays_4 n) S a1 a3 (0 : Int32))) else fX9_plays_50 (fX9_plays_4 n) S a1 a3 (0 : Int32)) else none) else fX9_plays_50 (fX9_plays_4 n) S a1 a3 (1 : Int32)))
def fX9_plays (S : MS) (a1 : Int32) : Option (Bool) :=
  fX9_plays_4 FU S a1 (0 : Int32) (0 : Int32)
def fX9_stones_46 (a0 : Int32) (s0 : Int64) (s1 : Int64) : Option (Int64) :=
  (if (2 : Int32) ≤ a0 then (if a0 ≤ (3 : Int32) then some (s0 ||| s1) else (fX9_bit (30 : Int32)).bind fun q3 => some ((s0 ||| s1) ||| q3)) else some (0 : Int64))
def fX9_stones_29 (a0 : Int32) (s0 : Int64) (s1 : Int64) : Option (Int64) :=
  (if a0 ≤ (2 : Int32) then fX9_stones_46 a0 (s0 ||| s1) (0 : Int64) else (fX9_bit (18 : Int32)).bind fun q2 => fX9_stones_46 a0 (s0 ||| s1) q2)
def fX9_stones_13 (a0 : Int32) (s0 : Int64) : Option (Int64) :=
  (if a0 ≤ (1 : Int32) then fX9_stones_29 a0 s0 (0 : Int64) else (fX9_bit (32 : Int32)).bind fun q2 => fX9_stones_29 a0 s0 q2)
def fX9_stones (a0 : Int32) : Option (Int64) :=
  (if a0 ≤ 0 then fX9_stones_13 a0 (0 : Int64) else (fX9_bit (16 : Int32)).bind fun q2 => fX9_stones_13 a0 q2)
def fX9_keeps (S : MS) (a1 : Int64) (a3 : Int64) (a5 : Int32) : Option (Int32 × MS) :=
  (if xin (m_i S 21) 4096 = true then (if xin (m_i (ms_J S 18 (m_i S 21).toNatClampNeg a1) 21) 4096 = true then (some (ms_J (ms_J S 18 (m_i S 21).toNatClampNeg a1) 19 (m_i (ms_J S 18 (m_i S 21).toNatClampNeg a1) 21).toNatClampNeg a3)).bind fun W3 => (if xin (m_i W3 21) 4096 = true then (some (ms_i (ms_I W3 20 (m_i W3 21).toNatClampNeg a5) 21 ((m_i (ms_I W3 20 (m_i W3 21).toNatClampNeg a5) 21) + (1 : Int32)))).bind fun W5 => some (((m_i W5 21) - (1 : Int32)), W5) else none) else none) else none)
def fX9_game_250 : Nat → MS → Int32 → Int32 → Int32 → Option (Int32 × MS)
  | 0, _, _, _, _ => none
  | n + 1, S, a3, a4, a8 =>
    (if (2 : Int32) ≤ a8 then some (((m_i (ms_i S 4 ((m_i S 4) + (1 : Int32))) 4) - (1 : Int32)), (ms_i S 4 ((m_i S 4) + (1 : Int32)))) else (if xin (((2 : Int32) * (m_i S 4)) + a8) 32 = true then (if xin (((2 : Int32) * (m_i (ms_I S 14 (((2 : Int32) * (m_i S 4)) + a8).toNatClampNeg a3) 4)) + a8) 32 = true then (some (ms_I (ms_I S 14 (((2 : Int32) * (m_i S 4)) + a8).toNatClampNeg a3) 15 (((2 : Int32) * (m_i (ms_I S 14 (((2 : Int32) * (m_i S 4)) + a8).toNatClampNeg a3) 4)) + a8).toNatClampNeg a4)).bind fun W4 => fX9_game_250 n W4 a3 a4 (a8 + (1 : Int32)) else none) else none))
def fX9_game_116 (S : MS) (a1 : Int32) (a2 : Int32) (a3 : Int32) (a4 : Int32) (a5 : Int32) (s1 : Int32) : Option (Int32 × MS) :=
  (fX9_fails S s1).bind fun q1 => (if q1.1 = false then (if xin (m_i q1.2 4) 16 = true then (if xin (m_i (ms_I q1.2 3 (m_i q1.2 4).toNatClampNeg a1) 4) 16 = true then (some (ms_I (ms_I q1.2 3 (m_i q1.2 4).toNatClampNeg a1) 4 (m_i (ms_I q1.2 3 (m_i q1.2 4).toNatClampNeg a1) 4).toNatClampNeg a2)).bind fun W5 => (fX9_blackOf W5 a1 a2).bind fun q6 => (if xin (m_i W5 4) 16 = true then (if xin (m_i (ms_I W5 5 (m_i W5 4).toNatClampNeg q6) 4) 16 = true then (some (ms_I (ms_I W5 5 (m_i W5 4).toNatClampNeg q6) 6 (m_i (ms_I W5 5 (m_i W5 4).toNatClampNeg q6) 4).toNatClampNeg ((a1 + a2) - (m_I (ms_I W5 5 (m_i W5 4).toNatClampNeg q6) 5 (m_i (ms_I W5 5 (m_i W5 4).toNatClampNeg q6) 4).toNatClampNeg)))).bind fun W9 => (fX9_handicapOf W9 a1 a2).bind fun q10 => (if xin (m_i W9 4) 16 = true then (if xin (m_i (ms_I W9 7 (m_i W9 4).toNatClampNeg q10) 4) 16 = true then (some (ms_I (ms_I W9 7 (m_i W9 4).toNatClampNeg q10) 10 (m_i (ms_I W9 7 (m_i W9 4).toNatClampNeg q10) 4).toNatClampNeg (m_i (ms_I W9 7 (m_i W9 4).toNatClampNeg q10) 19))).bind fun W13 => (if xin (m_i W13 4) 16 = true then (fX9_stones (m_I W13 7 (m_i W13 4).toNatClampNeg)).bind fun q15 => (fX9_keeps W13 q15 (0 : Int64) (-1 : Int32)).bind fun q16 => (if xin (m_i (ms_I q16.2 11 (m_i W13 4).toNatClampNeg q16.1) 4) 16 = true then (some (ms_I (ms_I q16.2 11 (m_i W13 4).toNatClampNeg q16.1) 16 (m_i (ms_I q16.2 11 (m_i W13 4).toNatClampNeg q16.1) 4).toNatClampNeg a5)).bind fun W18 => fX9_game_250 FU W18 a3 a4 (0 : Int32) else none) else none) else none) else none) else none) else none) else none) else none) else some ((0 : Int32), q1.2))
def fX9_game_65 (S : MS) (a1 : Int32) (a2 : Int32) (a3 : Int32) (a4 : Int32) (a5 : Int32) (a6 : Int32) (s0 : Int32) : Option (Int32 × MS) :=
  (if a6 = 0 then fX9_game_116 S a1 a2 a3 a4 a5 (1 : Int32) else (if s0 = 0 then fX9_game_116 S a1 a2 a3 a4 a5 (2 : Int32) else (fX9_plays S a1).bind fun q3 => (if q3 = false then (fX9_plays S a2).bind fun q5 => (if q5 = false then (if (m_i S 4) = (16 : Int32) then fX9_game_116 S a1 a2 a3 a4 a5 (3 : Int32) else fX9_game_116 S a1 a2 a3 a4 a5 (0 : Int32)) else fX9_game_116 S a1 a2 a3 a4 a5 (3 : Int32)) else fX9_game_116 S a1 a2 a3 a4 a5 (3 : Int32))))
def fX9_game_21 (S : MS) (a1 : Int32) (a2 : Int32) (a3 : Int32) (a4 : Int32) (a5 : Int32) (s0 : Int32) : Option (Int32 × MS) :=
  (if a1 = a2 then fX9_game_65 S a1 a2 a3 a4 a5 s0 (0 : Int32) else (fX9_isIn a3 (0 : Int32) (3600 : Int32)).bind fun q2 => (if q2 = false then fX9_game_65 S a1 a2 a3 a4 a5 s0 (0 : Int32) else (fX9_isIn a4 (0 : Int32) (5 : Int32)).bind fun q4 => (if q4 = false then fX9_game_65 S a1 a2 a3 a4 a5 s0 (0 : Int32) else (fX9_isIn a5 (1 : Int32) (60 : Int32)).bind fun q6 => (if q6 = false then fX9_game_65 S a1 a2 a3 a4 a5 s0 (0 : Int32) else fX9_game_65 S a1 a2 a3 a4 a5 s0 (1 : Int32)))))
def fX9_game (S : MS) (a1 : Int32) (a2 : Int32) (a3 : Int32) (a4 : Int32) (a5 : Int32) : Option (Int32 × MS) :=
  (fX9_isPlayer S a1).bind fun q1 => (if q1 = false then fX9_game_21 S a1 a2 a3 a4 a5 (0 : Int32) else (fX9_isPlayer S a2).bind fun q3 => (if q3 = false then fX9_game_21 S a1 a2 a3 a4 a5 (0 : Int32) else fX9_game_21 S a1 a2 a3 a4 a5 (1 : Int32)))
def fX9_handicap_14 (S : MS) (a1 : Int32) (s1 : Int32) : Option (Int32 × MS) :=
  (fX9_fails S s1).bind fun q1 => (if q1.1 = false then (if xin a1 16 = true then some (((((100 : Int32) * (m_I q1.2 5 a1.toNatClampNeg)) + ((10 : Int32) * (m_I q1.2 6 a1.toNatClampNeg))) + (m_I q1.2 7 a1.toNatClampNeg)), q1.2) else none) else some ((0 : Int32), q1.2))
def fX9_handicap (S : MS) (a1 : Int32) : Option (Int32 × MS) :=
  (fX9_isGame S a1).bind fun q1 => (if q1 = false then fX9_handicap_14 S a1 (1 : Int32) else fX9_handicap_14 S a1 (0 : Int32))
def fX9_isOff (S : MS) (a1 : Int32) : Option (Bool × MS) :=
  (if xin a1 16 = true then (if (m_I S 9 a1.toNatClampNeg) = 0 then (fX9_dueOf S a1).bind fun q3 => (if q3.1 = ((((100 : Int32) * (m_I q3.2 5 a1.toNatClampNeg)) + ((10 : Int32) * (m_I q3.2 6 a1.toNatClampNeg))) + (m_I q3.2 7 a1.toNatClampNeg)) then some (false, q3.2) else some (true, q3.2)) else some (false, S)) else none)
def fX9_isRoot (S : MS) (a1 : Int32) : Option (Bool) :=
  (if xin a1 60 = true then (if (m_I S 28 a1.toNatClampNeg) = (-1 : Int32) then some true else some false) else none)
def fX9_off_28 (k4 : MS → Int32 → Int32 → Option (Int32 × MS)) (S : MS) (a2 : Int32) (s0 : Int32) (s1 : Int32) : Option (Int32 × MS) :=
  k4 S (s0 ||| s1) (a2 + (1 : Int32))
def fX9_off_4 : Nat → MS → Int32 → Int32 → Option (Int32 × MS)
  | 0, _, _, _ => none
  | n + 1, S, a1, a2 =>
    (if (m_i S 4) ≤ a2 then some (a1, S) else (fX9_isOff S a2).bind fun q2 => (if q2.1 = false then fX9_off_28 (fX9_off_4 n) q2.2 a2 a1 (0 : Int32) else fX9_off_28 (fX9_off_4 n) q2.2 a2 a1 (x_ishl (1 : Int32) a2)))
def fX9_off (S : MS) : Option (Int32 × MS) :=
  fX9_off_4 FU S (0 : Int32) (0 : Int32)
def fX9_judge_38 (S : MS) (a1 : Int32) (s1 : Int32) : Option (Int32 × MS) :=
  (fX9_fails S s1).bind fun q1 => (if q1.1 = false then (if xin a1 16 = true then (fX9_finds (ms_I q1.2 9 a1.toNatClampNeg (1 : Int32)) (m_i (ms_I q1.2 9 a1.toNatClampNeg (1 : Int32)) 19)).bind fun q4 => (fX9_off q4).bind fun q5 => some (q5.1, q5.2) else none) else some ((0 : Int32), q1.2))
def fX9_judge (S : MS) (a1 : Int32) : Option (Int32 × MS) :=
  (fX9_isGame S a1).bind fun q1 => (if q1 = false then fX9_judge_38 S a1 (1 : Int32) else (if xin a1 16 = true then (if (m_I S 8 a1.toNatClampNeg) = 0 then fX9_judge_38 S a1 (2 : Int32) else (if (m_I S 9 a1.toNatClampNeg) = 0 then fX9_judge_38 S a1 (0 : Int32) else fX9_judge_38 S a1 (2 : Int32))) else none))
def fX9_lacks_108 (k5 : MS → Int32 → Int32 → Int32 → Int32 → Option (Int32 × MS)) (S : MS) (a1 : Int32) (a2 : Int32) (a3 : Int32) (a4 : Int32) : Option (Int32 × MS) :=
  k5 S a1 a2 a3 (a4 + (1 : Int32))
def fX9_lacks_106 (k5 : MS → Int32 → Int32 → Int32 → Int32 → Option (Int32 × MS)) (S : MS) (a1 : Int32) (a2 : Int32) (a4 : Int32) (s0 : Int32) (s1 : Int32) : Option (Int32 × MS) :=
  fX9_lacks_108 k5 S a1 a2 (s0 + s1) a4
def fX9_lacks_88 (k5 : MS → Int32 → Int32 → Int32 → Int32 → Option (Int32 × MS)) (S : MS) (a1 : Int32) (a2 : Int32) (a3 : Int32) (a4 : Int32) (s1 : Int32) (s2 : Int32) : Option (Int32 × MS) :=
  (if xin s1 60 = true then (if xin a4 60 = true then (if (m_I (ms_I S 37 s1.toNatClampNeg s2) 37 a4.toNatClampNeg) = (-1 : Int32) then fX9_lacks_106 k5 (ms_I S 37 s1.toNatClampNeg s2) a1 a2 a4 a3 (1 : Int32) else fX9_lacks_106 k5 (ms_I S 37 s1.toNatClampNeg s2) a1 a2 a4 a3 (0 : Int32)) else none) else none)
def fX9_lacks_47 (k5 : MS → Int32 → Int32 → Int32 → Int32 → Option (Int32 × MS)) (S : MS) (a1 : Int32) (a2 : Int32) (a3 : Int32) (a4 : Int32) (s0 : Int32) : Option (Int32 × MS) :=
  (if a4 = a1 then fX9_lacks_88 k5 S a1 a2 a3 a4 a4 a2 else (if s0 = (-1 : Int32) then fX9_lacks_88 k5 S a1 a2 a3 a4 a4 (-1 : Int32) else (if xin a4 60 = true then (fX9_child S s0 (m_I S 30 a4.toNatClampNeg)).bind fun q4 => fX9_lacks_88 k5 S a1 a2 a3 a4 a4 q4 else none)))
def fX9_lacks_5 : Nat → MS → Int32 → Int32 → Int32 → Int32 → Option (Int32 × MS)
  | 0, _, _, _, _, _ => none
  | n + 1, S, a1, a2, a3, a4 =>
    (if (m_i S 36) ≤ a4 then some (a3, S) else (if xin a4 60 = true then (if (m_I S 29 a4.toNatClampNeg) = a1 then (if a4 = a1 then fX9_lacks_47 (fX9_lacks_5 n) S a1 a2 a3 a4 (-1 : Int32) else (if xin (m_I S 28 a4.toNatClampNeg) 60 = true then fX9_lacks_47 (fX9_lacks_5 n) S a1 a2 a3 a4 (m_I S 37 (m_I S 28 a4.toNatClampNeg).toNatClampNeg) else none)) else fX9_lacks_108 (fX9_lacks_5 n) S a1 a2 a3 a4) else none))
def fX9_lacks (S : MS) (a1 : Int32) (a2 : Int32) : Option (Int32 × MS) :=
  fX9_lacks_5 FU S a1 a2 (0 : Int32) (0 : Int32)
def fX9_reads (S : MS) (a1 : Int32) (a2 : Int32) (a3 : Int32) (a4 : Int32) : Option (Bool × MS) :=
  (if xin a1 16 = true then (if xin (m_I S 11 a1.toNatClampNeg) 4096 = true then (fX9_isEmpty (m_J S 18 (m_I S 11 a1.toNatClampNeg).toNatClampNeg) (m_J S 19 (m_I S 11 a1.toNatClampNeg).toNatClampNeg) a2).bind fun q3 => (if q3 = false then (fX9_catches S (m_J S 18 (m_I S 11 a1.toNatClampNeg).toNatClampNeg) (m_J S 19 (m_I S 11 a1.toNatClampNeg).toNatClampNeg) a2 a3 a4).bind fun q5 => (if q5.1 = false then some (false, q5.2) else some (true, q5.2)) else some (false, S)) else none) else none)
def fX9_ladder_47 (S : MS) (a1 : Int32) (a2 : Int32) (a3 : Int32) (s1 : Int32) : Option (Bool × MS) :=
  (fX9_fails S s1).bind fun q1 => (if q1.1 = false then (fX9_reads q1.2 a1 a2 a3 (2 : Int32)).bind fun q3 => (if q3.1 = false then some (false, q3.2) else some (true, q3.2)) else some (false, q1.2))
def fX9_ladder_20 (S : MS) (a1 : Int32) (a2 : Int32) (a3 : Int32) (s0 : Int32) : Option (Bool × MS) :=
  (if s0 = 0 then fX9_ladder_47 S a1 a2 a3 (1 : Int32) else (fX9_isIn a3 (1 : Int32) (8 : Int32)).bind fun q2 => (if q2 = false then fX9_ladder_47 S a1 a2 a3 (2 : Int32) else fX9_ladder_47 S a1 a2 a3 (0 : Int32)))
def fX9_ladder (S : MS) (a1 : Int32) (a2 : Int32) (a3 : Int32) : Option (Bool × MS) :=
  (fX9_isGame S a1).bind fun q1 => (if q1 = false then fX9_ladder_20 S a1 a2 a3 (0 : Int32) else (fX9_isPoint a2).bind fun q3 => (if q3 = false then fX9_ladder_20 S a1 a2 a3 (0 : Int32) else fX9_ladder_20 S a1 a2 a3 (1 : Int32)))
def fX9_lesson_47 (S : MS) (a1 : Int32) (a2 : Int32) (s1 : Int32) : Option (Int32 × MS) :=
  (fX9_fails S s1).bind fun q1 => (if q1.1 = false then (fX9_position q1.2 a1 a2).bind fun q3 => (if xin q3 4096 = true then (fX9_sideOf q1.2 a1 a2).bind fun q5 => (fX9_makes q1.2 (-1 : Int32) (-2 : Int32) (m_J q1.2 18 q3.toNatClampNeg) (m_J q1.2 19 q3.toNatClampNeg) q5).bind fun q6 => (if xin q6.1 60 = true then some (q6.1, (ms_I (ms_I q6.2 31 q6.1.toNatClampNeg a1) 32 q6.1.toNatClampNeg a2)) else none) else none) else some ((0 : Int32), q1.2))
def fX9_lesson (S : MS) (a1 : Int32) (a2 : Int32) : Option (Int32 × MS) :=
  (fX9_isGame S a1).bind fun q1 => (if q1 = false then fX9_lesson_47 S a1 a2 (1 : Int32) else (if xin a1 16 = true then (fX9_isIn a2 (0 : Int32) (m_I S 12 a1.toNatClampNeg)).bind fun q4 => (if q4 = false then fX9_lesson_47 S a1 a2 (2 : Int32) else (if (m_i S 36) = (60 : Int32) then fX9_lesson_47 S a1 a2 (3 : Int32) else fX9_lesson_47 S a1 a2 (0 : Int32))) else none))
def fX9_liberties (S : MS) (a1 : Int32) (a2 : Int32) : Option (Int32 × MS) :=
  (fX9_libertiesOf S a1 a2).bind fun q1 => some (q1.1, q1.2)
def fX9_mark_48 (S : MS) (a1 : Int32) (a2 : Int32) (a3 : Int32) (s1 : Int32) : Option (Int32 × MS) :=
  (fX9_fails S s1).bind fun q1 => (if q1.1 = false then (if xin (((4 : Int32) * a1) + a2) 240 = true then some ((m_I q1.2 36 (((4 : Int32) * a1) + a2).toNatClampNeg), (ms_I q1.2 36 (((4 : Int32) * a1) + a2).toNatClampNeg a3)) else none) else some ((0 : Int32), q1.2))
def fX9_mark_22 (S : MS) (a1 : Int32) (a2 : Int32) (a3 : Int32) (s0 : Int32) : Option (Int32 × MS) :=
  (if s0 = 0 then fX9_mark_48 S a1 a2 a3 (1 : Int32) else (fX9_isIn a3 (0 : Int32) (3 : Int32)).bind fun q2 => (if q2 = false then fX9_mark_48 S a1 a2 a3 (2 : Int32) else fX9_mark_48 S a1 a2 a3 (0 : Int32)))
def fX9_mark (S : MS) (a1 : Int32) (a2 : Int32) (a3 : Int32) : Option (Int32 × MS) :=
  (fX9_isNode S a1).bind fun q1 => (if q1 = false then fX9_mark_22 S a1 a2 a3 (0 : Int32) else (fX9_isIn a2 (0 : Int32) (3 : Int32)).bind fun q3 => (if q3 = false then fX9_mark_22 S a1 a2 a3 (0 : Int32) else fX9_mark_22 S a1 a2 a3 (1 : Int32)))
def fX9_merge_288 (k140 : MS → Int32 → Int32 → Int32 → Option (Int32 × MS)) (S : MS) (a1 : Int32) (a5 : Int32) (a6 : Int32) : Option (Int32 × MS) :=
  k140 S a1 a5 (a6 + (1 : Int32))
def fX9_merge_281 (k140 : MS → Int32 → Int32 → Int32 → Option (Int32 × MS)) (k223 : MS → Int32 → Int32 → Int32 → Int32 → Option (Int32 × MS)) (S : MS) (a1 : Int32) (a5 : Int32) (a6 : Int32) (a7 : Int32) (s1 : Int32) (s2 : Int32) : Option (Int32 × MS) :=
  (if xin s1 240 = true then k223 (ms_I S 36 s1.toNatClampNeg s2) a1 a5 a6 (a7 + (1 : Int32)) else none)
def fX9_merge_223 (k140 : MS → Int32 → Int32 → Int32 → Option (Int32 × MS)) : Nat → MS → Int32 → Int32 → Int32 → Int32 → Option (Int32 × MS)
  | 0, _, _, _, _, _ => none
  | n + 1, S, a1, a5, a6, a7 =>
    (if (4 : Int32) ≤ a7 then fX9_merge_288 k140 S a1 a5 a6 else (if xin a6 60 = true then (if xin (((4 : Int32) * (m_I S 37 a6.toNatClampNeg)) + a7) 240 = true then (if (m_I S 36 (((4 : Int32) * (m_I S 37 a6.toNatClampNeg)) + a7).toNatClampNeg) = 0 then (if xin (((4 : Int32) * a6) + a7) 240 = true then fX9_merge_281 k140 (fX9_merge_223 k140 n) S a1 a5 a6 a7 (((4 : Int32) * (m_I S 37 a6.toNatClampNeg)) + a7) (m_I S 36 (((4 : Int32) * a6) + a7).toNatClampNeg) else none) else fX9_merge_281 k140 (fX9_merge_223 k140 n) S a1 a5 a6 a7 (((4 : Int32) * (m_I S 37 a6.toNatClampNeg)) + a7) (m_I S 36 (((4 : Int32) * (m_I S 37 a6.toNatClampNeg)) + a7).toNatClampNeg)) else none) else none))
def fX9_merge_220 (k140 : MS → Int32 → Int32 → Int32 → Option (Int32 × MS)) (S : MS) (a1 : Int32) (a5 : Int32) (a6 : Int32) : Option (Int32 × MS) :=
  fX9_merge_223 k140 FU S a1 a5 a6 (0 : Int32)
def fX9_merge_140 : Nat → MS → Int32 → Int32 → Int32 → Option (Int32 × MS)
  | 0, _, _, _, _ => none
  | n + 1, S, a1, a5, a6 =>
    (if a5 ≤ a6 then some (((m_i S 36) - a5), S) else (if xin a6 60 = true then (if (m_I S 29 a6.toNatClampNeg) = a1 then (if (m_I S 37 a6.toNatClampNeg) = (-1 : Int32) then (if xin (m_I S 28 a6.toNatClampNeg) 60 = true then (fX9_makes S (m_I S 37 (m_I S 28 a6.toNatClampNeg).toNatClampNeg) (m_I S 30 a6.toNatClampNeg) (m_J S 34 a6.toNatClampNeg) (m_J S 35 a6.toNatClampNeg) (m_I S 33 a6.toNatClampNeg)).bind fun q6 => fX9_merge_220 (fX9_merge_140 n) (ms_I q6.2 37 a6.toNatClampNeg q6.1) a1 a5 a6 else none) else fX9_merge_220 (fX9_merge_140 n) S a1 a5 a6) else fX9_merge_288 (fX9_merge_140 n) S a1 a5 a6) else none))
def fX9_merge_123 (S : MS) (a1 : Int32) (s1 : Int32) : Option (Int32 × MS) :=
  (fX9_fails S s1).bind fun q1 => (if q1.1 = false then fX9_merge_140 FU q1.2 a1 (m_i q1.2 36) (0 : Int32) else some ((0 : Int32), q1.2))
def fX9_merge_82 (S : MS) (a1 : Int32) (a2 : Int32) (a3 : Int32) (s0 : Int32) : Option (Int32 × MS) :=
  (if a3 = 0 then fX9_merge_123 S a1 (1 : Int32) else (if s0 = 0 then fX9_merge_123 S a1 (2 : Int32) else (fX9_lacks S a1 a2).bind fun q3 => (if ((m_i S 36) + q3.1) ≤ (60 : Int32) then fX9_merge_123 q3.2 a1 (0 : Int32) else fX9_merge_123 q3.2 a1 (3 : Int32))))
def fX9_merge_21 (S : MS) (a1 : Int32) (a2 : Int32) (s0 : Int32) : Option (Int32 × MS) :=
  (if s0 = 0 then fX9_merge_82 S a1 a2 s0 (0 : Int32) else (if a1 = a2 then fX9_merge_82 S a1 a2 s0 (0 : Int32) else (fX9_isRoot S a1).bind fun q3 => (if q3 = false then fX9_merge_82 S a1 a2 s0 (0 : Int32) else (fX9_isRoot S a2).bind fun q5 => (if q5 = false then fX9_merge_82 S a1 a2 s0 (0 : Int32) else (if xin a1 60 = true then (if xin a2 60 = true then (if (m_I S 31 a1.toNatClampNeg) = (m_I S 31 a2.toNatClampNeg) then (if (m_I S 32 a1.toNatClampNeg) = (m_I S 32 a2.toNatClampNeg) then fX9_merge_82 S a1 a2 s0 (1 : Int32) else fX9_merge_82 S a1 a2 s0 (0 : Int32)) else fX9_merge_82 S a1 a2 s0 (0 : Int32)) else none) else none)))))
def fX9_merge (S : MS) (a1 : Int32) (a2 : Int32) : Option (Int32 × MS) :=
  (fX9_isNode S a1).bind fun q1 => (if q1 = false then fX9_merge_21 S a1 a2 (0 : Int32) else (fX9_isNode S a2).bind fun q3 => (if q3 = false then fX9_merge_21 S a1 a2 (0 : Int32) else fX9_merge_21 S a1 a2 (1 : Int32)))
def fX9_net_46 (S : MS) (a1 : Int32) (a2 : Int32) (a3 : Int32) (s1 : Int32) : Option (Bool × MS) :=
  (fX9_fails S s1).bind fun q1 => (if q1.1 = false then (fX9_reads q1.2 a1 a2 a3 (3 : Int32)).bind fun q3 => (if q3.1 = false then some (false, q3.2) else some (true, q3.2)) else some (false, q1.2))
def fX9_net_20 (S : MS) (a1 : Int32) (a2 : Int32) (a3 : Int32) (s0 : Int32) : Option (Bool × MS) :=
  (if s0 = 0 then fX9_net_46 S a1 a2 a3 (1 : Int32) else (fX9_isIn a3 (1 : Int32) (3 : Int32)).bind fun q2 => (if q2 = false then fX9_net_46 S a1 a2 a3 (2 : Int32) else fX9_net_46 S a1 a2 a3 (0 : Int32)))
def fX9_net (S : MS) (a1 : Int32) (a2 : Int32) (a3 : Int32) : Option (Bool × MS) :=
  (fX9_isGame S a1).bind fun q1 => (if q1 = false then fX9_net_20 S a1 a2 a3 (0 : Int32) else (fX9_isPoint a2).bind fun q3 => (if q3 = false then fX9_net_20 S a1 a2 a3 (0 : Int32) else fX9_net_20 S a1 a2 a3 (1 : Int32)))
def fX9_node_159 (S : MS) (s0 : Int32) (s1 : Int32) : Option (Int32 × MS) :=
  some ((s0 + s1), S)
def fX9_node_120 (k68 : MS → Int32 → Int32 → Int32 → Int32 → Int32 → Option (Int32 × MS)) (S : MS) (a1 : Int32) (a2 : Int32) (a3 : Int32) (a5 : Int32) (s0 : Int32) : Option (Int32 × MS) :=
  k68 S a1 a2 a3 s0 (a5 + (1 : Int32))
def fX9_node_98 (k68 : MS → Int32 → Int32 → Int32 → Int32 → Int32 → Option (Int32 × MS)) (S : MS) (a1 : Int32) (a2 : Int32) (a4 : Int32) (a5 : Int32) (s0 : Int32) : Option (Int32 × MS) :=
  (if a4 = 0 then (if xin a5 240 = true then (if (m_I S 36 a5.toNatClampNeg) = (2 : Int32) then fX9_node_120 k68 S a1 a2 s0 a5 (1 : Int32) else fX9_node_120 k68 S a1 a2 s0 a5 (0 : Int32)) else none) else fX9_node_120 k68 S a1 a2 s0 a5 (1 : Int32))
def fX9_node_68 : Nat → MS → Int32 → Int32 → Int32 → Int32 → Int32 → Option (Int32 × MS)
  | 0, _, _, _, _, _, _ => none
  | n + 1, S, a1, a2, a3, a4, a5 =>
    (if (((4 : Int32) * a1) + (4 : Int32)) ≤ a5 then (if xin a1 60 = true then (if a3 = 0 then fX9_node_159 S (((1000 : Int32) * a2) + ((10 : Int32) * ((m_I S 30 a1.toNatClampNeg) + (2 : Int32)))) (0 : Int32) else (if a4 = 0 then fX9_node_159 S (((1000 : Int32) * a2) + ((10 : Int32) * ((m_I S 30 a1.toNatClampNeg) + (2 : Int32)))) (0 : Int32) else fX9_node_159 S (((1000 : Int32) * a2) + ((10 : Int32) * ((m_I S 30 a1.toNatClampNeg) + (2 : Int32)))) (1 : Int32))) else none) else (if a3 = 0 then (if xin a5 240 = true then (if (m_I S 36 a5.toNatClampNeg) = (1 : Int32) then fX9_node_98 (fX9_node_68 n) S a1 a2 a4 a5 (1 : Int32) else fX9_node_98 (fX9_node_68 n) S a1 a2 a4 a5 (0 : Int32)) else none) else fX9_node_98 (fX9_node_68 n) S a1 a2 a4 a5 (1 : Int32)))
def fX9_node_50 (k26 : MS → Int32 → Int32 → Int32 → Option (Int32 × MS)) (S : MS) (a1 : Int32) (a3 : Int32) (s0 : Int32) (s1 : Int32) : Option (Int32 × MS) :=
  k26 S a1 (s0 + s1) (a3 + (1 : Int32))
def fX9_node_26 : Nat → MS → Int32 → Int32 → Int32 → Option (Int32 × MS)
  | 0, _, _, _, _ => none
  | n + 1, S, a1, a2, a3 =>
    (if (m_i S 36) ≤ a3 then fX9_node_68 FU S a1 a2 (0 : Int32) (0 : Int32) ((4 : Int32) * a1) else (if xin a3 60 = true then (if (m_I S 28 a3.toNatClampNeg) = a1 then fX9_node_50 (fX9_node_26 n) S a1 a3 a2 (1 : Int32) else fX9_node_50 (fX9_node_26 n) S a1 a3 a2 (0 : Int32)) else none))
def fX9_node_14 (S : MS) (a1 : Int32) (s1 : Int32) : Option (Int32 × MS) :=
  (fX9_fails S s1).bind fun q1 => (if q1.1 = false then fX9_node_26 FU q1.2 a1 (0 : Int32) (0 : Int32) else some ((0 : Int32), q1.2))
def fX9_node (S : MS) (a1 : Int32) : Option (Int32 × MS) :=
  (fX9_isNode S a1).bind fun q1 => (if q1 = false then fX9_node_14 S a1 (1 : Int32) else fX9_node_14 S a1 (0 : Int32))
def fX9_runsOut_97 (S : MS) (a3 : Int32) (s1 : Int32) (s2 : Int32) : Option (Bool × MS) :=
  (if xin s1 32 = true then (if xin a3 32 = true then (if (m_I (ms_I S 15 s1.toNatClampNeg s2) 15 a3.toNatClampNeg) = 0 then some (true, (ms_I S 15 s1.toNatClampNeg s2)) else some (false, (ms_I S 15 s1.toNatClampNeg s2))) else none) else none)
def fX9_runsOut (S : MS) (a1 : Int32) (a2 : Int32) : Option (Bool × MS) :=
  (if xin a1 16 = true then (fX9_sideOf S a1 (m_I S 12 a1.toNatClampNeg)).bind fun q2 => (if xin (((2 : Int32) * a1) + q2) 32 = true then (if (m_I S 14 (((2 : Int32) * a1) + q2).toNatClampNeg) < a2 then (if (m_I S 16 a1.toNatClampNeg) = 0 then none else (if (m_I (ms_I S 14 (((2 : Int32) * a1) + q2).toNatClampNeg (0 : Int32)) 15 (((2 : Int32) * a1) + q2).toNatClampNeg) ≤ (((a2 - (m_I S 14 (((2 : Int32) * a1) + q2).toNatClampNeg)) - (1 : Int32)) / (m_I S 16 a1.toNatClampNeg)) then fX9_runsOut_97 (ms_I S 14 (((2 : Int32) * a1) + q2).toNatClampNeg (0 : Int32)) (((2 : Int32) * a1) + q2) (((2 : Int32) * a1) + q2) (0 : Int32) else fX9_runsOut_97 (ms_I S 14 (((2 : Int32) * a1) + q2).toNatClampNeg (0 : Int32)) (((2 : Int32) * a1) + q2) (((2 : Int32) * a1) + q2) ((m_I (ms_I S 14 (((2 : Int32) * a1) + q2).toNatClampNeg (0 : Int32)) 15 (((2 : Int32) * a1) + q2).toNatClampNeg) - (((a2 - (m_I S 14 (((2 : Int32) * a1) + q2).toNatClampNeg)) - (1 : Int32)) / (m_I S 16 a1.toNatClampNeg))))) else (some (ms_I S 14 (((2 : Int32) * a1) + q2).toNatClampNeg ((m_I S 14 (((2 : Int32) * a1) + q2).toNatClampNeg) - a2))).bind fun W7 => some (false, W7)) else none) else none)
def fX9_scoreOf_181 (k71 : MS → Int64 → Int64 → Int64 → Int32 → Int64 → Option (Int32)) (S : MS) (a2 : Int64) (a4 : Int64) (a6 : Int64) (a9 : Int64) (s0 : Int32) (s1 : Int32) : Option (Int32) :=
  k71 S a2 a4 a6 (s0 + s1) a9
def fX9_scoreOf_161 (k71 : MS → Int64 → Int64 → Int64 → Int32 → Int64 → Option (Int32)) (S : MS) (a2 : Int64) (a4 : Int64) (a6 : Int64) (a9 : Int64) (a11 : Int64) (a13 : Int32) (a14 : Int32) (s0 : Int32) : Option (Int32) :=
  (if a14 = 0 then fX9_scoreOf_181 k71 S a2 a4 a6 a9 s0 (0 : Int32) else (if a13 = 0 then (fX9_bits a11).bind fun q3 => fX9_scoreOf_181 k71 S a2 a4 a6 a9 s0 (-q3) else fX9_scoreOf_181 k71 S a2 a4 a6 a9 s0 (0 : Int32)))
def fX9_scoreOf_139 (k71 : MS → Int64 → Int64 → Int64 → Int32 → Int64 → Option (Int32)) (S : MS) (a2 : Int64) (a4 : Int64) (a6 : Int64) (a8 : Int32) (a9 : Int64) (a11 : Int64) (a13 : Int32) (s0 : Int32) : Option (Int32) :=
  (if a13 = 0 then fX9_scoreOf_161 k71 S a2 a4 a6 a9 a11 a13 s0 a8 else (if s0 = 0 then (fX9_bits a11).bind fun q3 => fX9_scoreOf_181 k71 S a2 a4 a6 a9 a8 q3 else fX9_scoreOf_161 k71 S a2 a4 a6 a9 a11 a13 s0 a8))
def fX9_scoreOf_119 (k71 : MS → Int64 → Int64 → Int64 → Int32 → Int64 → Option (Int32)) (S : MS) (a2 : Int64) (a4 : Int64) (a6 : Int64) (a8 : Int32) (a9 : Int64) (a11 : Int64) (s0 : Int32) : Option (Int32) :=
  (fX9_around a11).bind fun q1 => (if (q1 &&& a4) = (0 : Int64) then fX9_scoreOf_139 k71 S a2 a4 a6 a8 a9 a11 s0 (0 : Int32) else fX9_scoreOf_139 k71 S a2 a4 a6 a8 a9 a11 s0 (1 : Int32))
def fX9_scoreOf_71 : Nat → MS → Int64 → Int64 → Int64 → Int32 → Int64 → Option (Int32)
  | 0, _, _, _, _, _, _ => none
  | n + 1, S, a2, a4, a6, a8, a9 =>
    (if a9 = (0 : Int64) then some a8 else (fX9_flood (a9 &&& (-a9)) a6).bind fun q2 => (fX9_around q2).bind fun q3 => (if (q3 &&& a2) = (0 : Int64) then fX9_scoreOf_119 (fX9_scoreOf_71 n) S a2 a4 a6 a8 (a9 &&& (q2 ^^^ (-1 : Int64))) q2 (0 : Int32) else fX9_scoreOf_119 (fX9_scoreOf_71 n) S a2 a4 a6 a8 (a9 &&& (q2 ^^^ (-1 : Int64))) q2 (1 : Int32)))
def fX9_scoreOf_64 (S : MS) (a2 : Int64) (a4 : Int64) (a6 : Int64) (s0 : Int32) (s1 : Int32) : Option (Int32) :=
  fX9_scoreOf_71 FU S a2 a4 a6 (s0 - s1) a6
def fX9_scoreOf (S : MS) (a1 : Int32) : Option (Int32) :=
  (if xin a1 16 = true then (if xin (m_I S 11 a1.toNatClampNeg) 4096 = true then (fX9_bits (m_J S 18 (m_I S 11 a1.toNatClampNeg).toNatClampNeg)).bind fun q3 => (fX9_bits (m_J S 19 (m_I S 11 a1.toNatClampNeg).toNatClampNeg)).bind fun q4 => (if (m_I S 7 a1.toNatClampNeg) = 0 then fX9_scoreOf_64 S (m_J S 18 (m_I S 11 a1.toNatClampNeg).toNatClampNeg) (m_J S 19 (m_I S 11 a1.toNatClampNeg).toNatClampNeg) ((562949953421311 : Int64) &&& (((m_J S 18 (m_I S 11 a1.toNatClampNeg).toNatClampNeg) ||| (m_J S 19 (m_I S 11 a1.toNatClampNeg).toNatClampNeg)) ^^^ (-1 : Int64))) (q3 - q4) (6 : Int32) else fX9_scoreOf_64 S (m_J S 18 (m_I S 11 a1.toNatClampNeg).toNatClampNeg) (m_J S 19 (m_I S 11 a1.toNatClampNeg).toNatClampNeg) ((562949953421311 : Int64) &&& (((m_J S 18 (m_I S 11 a1.toNatClampNeg).toNatClampNeg) ||| (m_J S 19 (m_I S 11 a1.toNatClampNeg).toNatClampNeg)) ^^^ (-1 : Int64))) (q3 - q4) (0 : Int32)) else none) else none)
def fX9_pass_176 (S : MS) (a1 : Int32) : Option (Int32 × MS) :=
  (if xin a1 16 = true then some ((m_I S 8 a1.toNatClampNeg), S) else none)
def fX9_pass_173 (S : MS) (a1 : Int32) (s1 : Int32) (s2 : Int32) : Option (Int32 × MS) :=
  (fX9_ends S s1 s2).bind fun q1 => fX9_pass_176 q1 a1
def fX9_pass_44 (S : MS) (a1 : Int32) (a2 : Int32) (s1 : Int32) : Option (Int32 × MS) :=
  (fX9_fails S s1).bind fun q1 => (if q1.1 = false then (if xin a1 16 = true then (fX9_sideOf q1.2 a1 (m_I q1.2 12 a1.toNatClampNeg)).bind fun q4 => (fX9_runsOut q1.2 a1 a2).bind fun q5 => (if q5.1 = false then (if xin (m_I q5.2 11 a1.toNatClampNeg) 4096 = true then (fX9_keeps q5.2 (m_J q5.2 18 (m_I q5.2 11 a1.toNatClampNeg).toNatClampNeg) (m_J q5.2 19 (m_I q5.2 11 a1.toNatClampNeg).toNatClampNeg) (m_I q5.2 11 a1.toNatClampNeg)).bind fun q8 => (some (ms_I (ms_I q8.2 11 a1.toNatClampNeg q8.1) 12 a1.toNatClampNeg ((m_I (ms_I q8.2 11 a1.toNatClampNeg q8.1) 12 a1.toNatClampNeg) + (1 : Int32)))).bind fun W9 => (some (ms_I W9 13 a1.toNatClampNeg ((m_I W9 13 a1.toNatClampNeg) + (1 : Int32)))).bind fun W10 => (if (m_I W10 13 a1.toNatClampNeg) = (2 : Int32) then (fX9_scoreOf W10 a1).bind fun q12 => (if q12 ≤ 0 then fX9_pass_173 W10 a1 a1 (1 : Int32) else fX9_pass_173 W10 a1 a1 (0 : Int32)) else fX9_pass_176 W10 a1) else none) else (fX9_ends q5.2 a1 ((1 : Int32) - q4)).bind fun q14 => some ((m_I q14 8 a1.toNatClampNeg), q14)) else none) else some ((0 : Int32), q1.2))
def fX9_pass (S : MS) (a1 : Int32) (a2 : Int32) : Option (Int32 × MS) :=
  (fX9_isGame S a1).bind fun q1 => (if q1 = false then fX9_pass_44 S a1 a2 (1 : Int32) else (fX9_isIn a2 (0 : Int32) (1000 : Int32)).bind fun q3 => (if q3 = false then fX9_pass_44 S a1 a2 (2 : Int32) else (if xin a1 16 = true then (if (m_I S 8 a1.toNatClampNeg) = 0 then fX9_pass_44 S a1 a2 (0 : Int32) else fX9_pass_44 S a1 a2 (3 : Int32)) else none)))
def fX9_play_61 (S : MS) (a1 : Int32) (a3 : Int32) (s1 : Int32) : Option (Int32 × MS) :=
  (fX9_fails S s1).bind fun q1 => (if q1.1 = false then (if xin a1 16 = true then (fX9_sideOf q1.2 a1 (m_I q1.2 12 a1.toNatClampNeg)).bind fun q4 => (fX9_runsOut q1.2 a1 a3).bind fun q5 => (if q5.1 = false then (fX9_keeps q5.2 (m_j q5.2 25) (m_j q5.2 26) (m_I q5.2 11 a1.toNatClampNeg)).bind fun q7 => (some (ms_I (ms_I q7.2 11 a1.toNatClampNeg q7.1) 12 a1.toNatClampNeg ((m_I (ms_I q7.2 11 a1.toNatClampNeg q7.1) 12 a1.toNatClampNeg) + (1 : Int32)))).bind fun W8 => some ((m_i (ms_I W8 13 a1.toNatClampNeg (0 : Int32)) 27), (ms_I W8 13 a1.toNatClampNeg (0 : Int32))) else (fX9_ends q5.2 a1 ((1 : Int32) - q4)).bind fun q9 => some ((-1 : Int32), q9)) else none) else some ((0 : Int32), q1.2))
def fX9_play_20 (S : MS) (a1 : Int32) (a2 : Int32) (a3 : Int32) (s0 : Int32) : Option (Int32 × MS) :=
  (if s0 = 0 then fX9_play_61 S a1 a3 (1 : Int32) else (fX9_isIn a3 (0 : Int32) (1000 : Int32)).bind fun q2 => (if q2 = false then fX9_play_61 S a1 a3 (2 : Int32) else (fX9_canPlay S a1 a2).bind fun q4 => (if q4.1 = false then fX9_play_61 q4.2 a1 a3 (3 : Int32) else fX9_play_61 q4.2 a1 a3 (0 : Int32))))
def fX9_play (S : MS) (a1 : Int32) (a2 : Int32) (a3 : Int32) : Option (Int32 × MS) :=
  (fX9_isGame S a1).bind fun q1 => (if q1 = false then fX9_play_20 S a1 a2 a3 (0 : Int32) else (fX9_isPoint a2).bind fun q3 => (if q3 = false then fX9_play_20 S a1 a2 a3 (0 : Int32) else fX9_play_20 S a1 a2 a3 (1 : Int32)))
def fX9_player_29 (S : MS) (a1 : Int32) (s1 : Int32) : Option (Int32 × MS) :=
  (fX9_fails S s1).bind fun q1 => (if q1.1 = false then (if xin (m_i q1.2 0) 8 = true then (if xin (m_i (ms_I q1.2 0 (m_i q1.2 0).toNatClampNeg a1) 0) 8 = true then (some (ms_I (ms_I q1.2 0 (m_i q1.2 0).toNatClampNeg a1) 1 (m_i (ms_I q1.2 0 (m_i q1.2 0).toNatClampNeg a1) 0).toNatClampNeg a1)).bind fun W5 => some (((m_i (ms_i W5 0 ((m_i W5 0) + (1 : Int32))) 0) - (1 : Int32)), (ms_i W5 0 ((m_i W5 0) + (1 : Int32)))) else none) else none) else some ((0 : Int32), q1.2))
def fX9_player (S : MS) (a1 : Int32) : Option (Int32 × MS) :=
  (fX9_isIn a1 (0 : Int32) (20 : Int32)).bind fun q1 => (if q1 = false then fX9_player_29 S a1 (1 : Int32) else (if (m_i S 0) = (8 : Int32) then fX9_player_29 S a1 (2 : Int32) else fX9_player_29 S a1 (0 : Int32)))
def fX9_rank_57 (S : MS) (s0 : Int32) (s1 : Int32) : Option (Int32 × MS) :=
  some ((s0 + s1), S)
def fX9_rank_14 (S : MS) (a1 : Int32) (s1 : Int32) : Option (Int32 × MS) :=
  (fX9_fails S s1).bind fun q1 => (if q1.1 = false then (if xin a1 8 = true then (if 0 ≤ (m_I q1.2 2 a1.toNatClampNeg) then fX9_rank_57 q1.2 ((10 : Int32) * (m_I q1.2 1 a1.toNatClampNeg)) (m_I q1.2 2 a1.toNatClampNeg) else fX9_rank_57 q1.2 ((10 : Int32) * (m_I q1.2 1 a1.toNatClampNeg)) ((5 : Int32) - (m_I q1.2 2 a1.toNatClampNeg))) else none) else some ((0 : Int32), q1.2))
def fX9_rank (S : MS) (a1 : Int32) : Option (Int32 × MS) :=
  (fX9_isPlayer S a1).bind fun q1 => (if q1 = false then fX9_rank_14 S a1 (1 : Int32) else fX9_rank_14 S a1 (0 : Int32))
def fX9_resign_29 (S : MS) (a1 : Int32) (s1 : Int32) : Option (Int32 × MS) :=
  (fX9_fails S s1).bind fun q1 => (if q1.1 = false then (if xin a1 16 = true then (fX9_sideOf q1.2 a1 (m_I q1.2 12 a1.toNatClampNeg)).bind fun q4 => (fX9_ends q1.2 a1 ((1 : Int32) - q4)).bind fun q5 => some ((m_I q5 8 a1.toNatClampNeg), q5) else none) else some ((0 : Int32), q1.2))
def fX9_resign (S : MS) (a1 : Int32) : Option (Int32 × MS) :=
  (fX9_isGame S a1).bind fun q1 => (if q1 = false then fX9_resign_29 S a1 (1 : Int32) else (if xin a1 16 = true then (if (m_I S 8 a1.toNatClampNeg) = 0 then fX9_resign_29 S a1 (0 : Int32) else fX9_resign_29 S a1 (2 : Int32)) else none))
def fX9_score_14 (S : MS) (a1 : Int32) (s1 : Int32) : Option (Int32 × MS) :=
  (fX9_fails S s1).bind fun q1 => (if q1.1 = false then (fX9_scoreOf q1.2 a1).bind fun q3 => some (q3, q1.2) else some ((0 : Int32), q1.2))
def fX9_score (S : MS) (a1 : Int32) : Option (Int32 × MS) :=
  (fX9_isGame S a1).bind fun q1 => (if q1 = false then fX9_score_14 S a1 (1 : Int32) else fX9_score_14 S a1 (0 : Int32))
def fX9_settle_75 (k12 : MS → Int32 → Int32 → Option (Int32 × MS)) (S : MS) (a1 : Int32) : Option (Int32 × MS) :=
  (fX9_finds S (m_i S 19)).bind fun q1 => (fX9_off q1).bind fun q2 => k12 q2.2 (a1 + (1 : Int32)) q2.1
def fX9_settle_18 (k12 : MS → Int32 → Int32 → Option (Int32 × MS)) : Nat → MS → Int32 → Int32 → Int32 → Option (Int32 × MS)
  | 0, _, _, _, _ => none
  | n + 1, S, a1, a2, a3 =>
    (if ((x_ishr a2 a3) &&& (1 : Int32)) = 0 then fX9_settle_18 k12 n S a1 a2 (a3 + (1 : Int32)) else (if xin a3 16 = true then (if (m_I (ms_I S 9 a3.toNatClampNeg (1 : Int32)) 8 a3.toNatClampNeg) = 0 then (some (ms_I (ms_I S 9 a3.toNatClampNeg (1 : Int32)) 8 a3.toNatClampNeg (2 : Int32))).bind fun W4 => (if xin (m_i W4 19) 16 = true then (some (ms_i (ms_I W4 17 (m_i W4 19).toNatClampNeg a3) 19 ((m_i (ms_I W4 17 (m_i W4 19).toNatClampNeg a3) 19) + (1 : Int32)))).bind fun W6 => fX9_settle_75 k12 W6 a1 else none) else fX9_settle_75 k12 (ms_I S 9 a3.toNatClampNeg (1 : Int32)) a1) else none))
def fX9_settle_12 : Nat → MS → Int32 → Int32 → Option (Int32 × MS)
  | 0, _, _, _ => none
  | n + 1, S, a1, a2 =>
    (if a2 = 0 then some (a1, S) else fX9_settle_18 (fX9_settle_12 n) FU S a1 a2 (0 : Int32))
def fX9_settle (S : MS) : Option (Int32 × MS) :=
  (fX9_off (ms_i S 47 (0 : Int32))).bind fun q1 => fX9_settle_12 FU q1.2 (0 : Int32) q1.1
def fX9_sign_21 (S : MS) (a1 : Int32) (a2 : Int32) (s1 : Int32) : Option (Int32 × MS) :=
  (fX9_fails S s1).bind fun q1 => (if q1.1 = false then (if xin a1 16 = true then (if xin (m_I q1.2 11 a1.toNatClampNeg) 4096 = true then (fX9_bit a2).bind fun q5 => (if ((m_J q1.2 18 (m_I q1.2 11 a1.toNatClampNeg).toNatClampNeg) &&& q5) = (0 : Int64) then (fX9_bit a2).bind fun q7 => (if ((m_J q1.2 19 (m_I q1.2 11 a1.toNatClampNeg).toNatClampNeg) &&& q7) = (0 : Int64) then (xchar (46 : Int32)).bind fun b9 => some (b9, q1.2) else (xchar (79 : Int32)).bind fun b10 => some (b10, q1.2)) else (xchar (88 : Int32)).bind fun b11 => some (b11, q1.2)) else none) else none) else (xchar (32 : Int32)).bind fun b12 => some (b12, q1.2))
def fX9_sign (S : MS) (a1 : Int32) (a2 : Int32) : Option (Int32 × MS) :=
  (fX9_isGame S a1).bind fun q1 => (if q1 = false then fX9_sign_21 S a1 a2 (1 : Int32) else (fX9_isPoint a2).bind fun q3 => (if q3 = false then fX9_sign_21 S a1 a2 (1 : Int32) else fX9_sign_21 S a1 a2 (0 : Int32)))
def fX9_stateOf_21 (S : MS) (s0 : Int32) (s1 : Int32) : Option (Int32) :=
  some (s0 + s1)
def fX9_stateOf (S : MS) (a1 : Int32) : Option (Int32) :=
  (if xin a1 16 = true then (if (m_I S 9 a1.toNatClampNeg) = 0 then fX9_stateOf_21 S (m_I S 8 a1.toNatClampNeg) (0 : Int32) else fX9_stateOf_21 S (m_I S 8 a1.toNatClampNeg) (10 : Int32)) else none)
def fX9_state_14 (S : MS) (a1 : Int32) (s1 : Int32) : Option (Int32 × MS) :=
  (fX9_fails S s1).bind fun q1 => (if q1.1 = false then (fX9_stateOf q1.2 a1).bind fun q3 => some (q3, q1.2) else some ((0 : Int32), q1.2))
def fX9_state (S : MS) (a1 : Int32) : Option (Int32 × MS) :=
  (fX9_isGame S a1).bind fun q1 => (if q1 = false then fX9_state_14 S a1 (1 : Int32) else fX9_state_14 S a1 (0 : Int32))
def fX9_thrown (S : MS) : Option (Int32) :=
  some (m_i S 47)
