def fX10_forgetFound (g : z_S) : Option (Unit × z_S) :=
  z_s (z_wi g 43 1 0) (fun g5 => (z_s (z_wi g5 45 1 0) (fun g13 => (z_s (z_wi g13 26 3 (-1)) (fun g21 => (some ((), g21)))))))
def fX10_letters (v1 : Int32) (g : z_S) : Option (Int32 × z_S) :=
  if v1 < 2 then (some ((-1002), g)) else (if v1 ≤ 8 then (z_s (z_wi g 1 0 v1) (fun g20 => (z_s (z_wi g20 4 0 0) (fun g28 => (z_s (z_wi g28 26 0 0) (fun g36 => (z_s (z_wi g36 11 1 0) (fun g44 => (z_b (fX10_forgetFound g44) (fun _ g48 => (some (v1, g48)))))))))))) else (some ((-1002), g)))
def fX6_put_9 (v1 : Int32) (g : z_S) : Option (Unit × z_S) :=
  if 200 ≤ g.1 9 1 then (some ((), g)) else (z_g (z_in (g.1 9 1) 200) (z_s (z_wi g 10 (g.1 9 1).toNatClampNeg v1) (fun g21 => (z_s (z_wi g21 9 1 ((g21.1 9 1) + 1)) (fun g29 => (some ((), g29)))))))
def fX10_feed_B39 (rc : (Int64 × Int32) → z_S → Option (Int32 × z_S)) (a : Int64 × Int32) (g : z_S) : Option (Int32 × z_S) := match a with
  | (v2, v4) =>
  if v4 < 0 then (some (g.1 9 1, g)) else (z_b (fX6_put_9 (((((v2).toUInt64 >>> ((8 * v4).toInt64.toUInt64 &&& Int64.toUInt64 63)).toInt64).toInt32) &&& 255) g) (fun _ g60 => (rc (v2, (v4 + (-1))) g60)))
def fX10_feed (v1 : Int32) (v2 : Int64) (g : z_S) : Option (Int32 × z_S) :=
  if v1 < 1 then (some ((-1002), g)) else (if v1 ≤ 8 then (if (g.1 9 1) + v1 ≤ 200 then (z_loop fX10_feed_B39 zN (v2, (v1 - 1)) g) else (some ((-1004), g))) else (some ((-1002), g)))
def fX0_here (g : z_S) : Option (Int32 × z_S) :=
  if g.1 13 4 < 0 then (some ((-1), g)) else (if g.1 9 1 ≤ g.1 13 4 then (some ((-1), g)) else (z_g (z_in (g.1 13 4) 200) (some (g.1 10 (g.1 13 4).toNatClampNeg, g))))
def fX0_skipBlanks_B0 (rc : Unit → z_S → Option (Unit × z_S)) (_a : Unit) (g : z_S) : Option (Unit × z_S) :=
  if g.1 9 1 ≤ g.1 13 4 then (some ((), g)) else (z_b (fX0_here g) (fun r15 g15 => (if r15 = 32 then (z_s (z_wi g15 13 4 ((g15.1 13 4) + 1)) (fun g30 => (rc () g30))) else (some ((), g15)))))
def fX0_skipBlanks (g : z_S) : Option (Unit × z_S) :=
  if g.1 9 1 ≤ g.1 13 4 then (some ((), g)) else (z_b (fX0_here g) (fun r15 g15 => (if r15 = 32 then (z_s (z_wi g15 13 4 ((g15.1 13 4) + 1)) (fun g30 => (z_loop fX0_skipBlanks_B0 zN () g30))) else (some ((), g15)))))
def fX0_isLetter (v0 : Int32) (g : z_S) : Option (Int32 × z_S) :=
  if v0 < 97 then (some (0, g)) else (if 104 < v0 then (some (0, g)) else (some (1, g)))
def fX0_blame (v1 : Int32) (v2 : Int32) (g : z_S) : Option (Int32 × z_S) :=
  z_s (z_wi g 13 1 v2) (fun g2 => (some (v1, g2)))
def fX9_sign_14 (v1 : Int32) (v2 : Int32) (g : z_S) : Option (Int32 × z_S) :=
  z_g (z_in ((v1 * 8) + v2) 128) (some (g.1 15 ((v1 * 8) + v2).toNatClampNeg, g))
def fX9_liesAt_14_J84 (rc : (Int32 × Int32 × Int32 × Int32 × Int32 × Int32) → z_S → Option (Int32 × z_S)) (v1 : Int32) (v2 : Int32) (v3 : Int32) (v4 : Int32) (v5 : Int32) (v6 : Int32) (s0 : Int32) (g : z_S) : Option (Int32 × z_S) :=
  z_b (fX9_sign_14 v1 v6 g) (fun r92 g92 => (if s0 = r92 then (rc (v1, v2, v3, v4, v5, (v6 + 1)) g92) else (some (0, g92))))
def fX9_liesAt_14_B39 (rc : (Int32 × Int32 × Int32 × Int32 × Int32 × Int32) → z_S → Option (Int32 × z_S)) (a : Int32 × Int32 × Int32 × Int32 × Int32 × Int32) (g : z_S) : Option (Int32 × z_S) := match a with
  | (v1, v2, v3, v4, v5, v6) =>
  z_g (z_in v1 16) (if g.1 16 (v1).toNatClampNeg ≤ v6 then (some (1, g)) else (if v5 ≤ v4 + v6 then (z_b (fX9_sign_14 v3 ((v4 + v6) - v5) g) (fun r81 g81 => (fX9_liesAt_14_J84 rc v1 v2 v3 v4 v5 v6 r81 g81))) else (z_b (fX9_sign_14 v2 (v4 + v6) g) (fun r68 g68 => (fX9_liesAt_14_J84 rc v1 v2 v3 v4 v5 v6 r68 g68)))))
def fX9_liesAt_14 (v1 : Int32) (v2 : Int32) (v3 : Int32) (v4 : Int32) (g : z_S) : Option (Int32 × z_S) :=
  z_g (z_in v2 16) (if v4 < 0 then (some (0, g)) else (z_g (z_in v1 16) (z_g (z_in v3 16) (if v4 + (g.1 16 (v1).toNatClampNeg) ≤ (g.1 16 (v2).toNatClampNeg) + (g.1 16 (v3).toNatClampNeg) then (z_loop fX9_liesAt_14_B39 zN (v1, v2, v3, v4, (g.1 16 (v2).toNatClampNeg), 0) g) else (some (0, g))))))
def fX9_isAlike_14 (v1 : Int32) (v2 : Int32) (g : z_S) : Option (Int32 × z_S) :=
  z_g (z_in v1 16) (z_g (z_in v2 16) (if g.1 16 (v1).toNatClampNeg = g.1 16 (v2).toNatClampNeg then (z_b (fX9_liesAt_14 v1 v2 v2 0 g) (fun r20 g20 => (if r20 = 0 then (some (0, g20)) else (some (1, g20))))) else (some (0, g))))
def fX0_isToldAgain_B2 (rc : (Int32 × Int32) → z_S → Option (Int32 × z_S)) (a : Int32 × Int32) (g : z_S) : Option (Int32 × z_S) := match a with
  | (v1, v2) =>
  if v1 ≤ v2 then (some (0, g)) else (z_b (fX9_isAlike_14 v2 v1 g) (fun r13 g13 => (if r13 = 0 then (rc (v1, (v2 + 1)) g13) else (some (1, g13)))))
def fX0_isToldAgain (v1 : Int32) (g : z_S) : Option (Int32 × z_S) :=
  z_loop fX0_isToldAgain_B2 zN (v1, 0) g
def fX0_parseLetters_B35 (k80 : z_S → Option (Int32 × z_S)) (k96 : Int32 → z_S → Option (Int32 × z_S)) (k109 : z_S → Option (Int32 × z_S)) (k155 : Int32 → Int32 → Int32 → z_S → Option (Int32 × z_S)) (rc : (Int32 × Int32 × Int32) → z_S → Option (Int32 × z_S)) (a : Int32 × Int32 × Int32) (g : z_S) : Option (Int32 × z_S) := match a with
  | (v1, v2, v3) =>
  if g.1 9 1 ≤ g.1 13 4 then (k155 v1 v2 v3 g) else (z_b (fX0_here g) (fun r50 g50 => (z_b (fX0_isLetter r50 g50) (fun r53 g53 => (if r53 = 0 then (k155 v1 v2 v3 g53) else (z_b (fX0_here g53) (fun r60 g60 => (if r60 - 97 < g60.1 1 0 then (if v2 < 16 then (if v3 < 8 then (z_g (z_in ((v2 * 8) + v3) 128) (z_s (z_wi g60 15 ((v2 * 8) + v3).toNatClampNeg (r60 - 97)) (fun g134 => (z_s (z_wi g134 13 4 ((g134.1 13 4) + 1)) (fun g145 => (z_b (fX0_skipBlanks g145) (fun _ g149 => (rc (v1, v2, (v3 + 1)) g149)))))))) else (k109 g60)) else (k96 v1 g60)) else (k80 g60)))))))))
def fX0_parseLetters (g : z_S) : Option (Int32 × z_S) :=
  z_b (fX0_here g) (fun r6 g6 => (z_b (fX0_isLetter r6 g6) (fun r9 g9 => (if r9 = 0 then (z_b (fX0_blame 1 (g9.1 13 4) g9) (fun r21 g21 => (some (r21, g21)))) else (z_loop (fX0_parseLetters_B35 (fun (g : z_S) => z_b (fX0_blame 2 (g.1 13 4) g) (fun r86 g86 => (some (r86, g86)))) (fun (v1 : Int32) (g : z_S) => z_b (fX0_blame 5 v1 g) (fun r99 g99 => (some (r99, g99)))) (fun (g : z_S) => z_b (fX0_blame 3 (g.1 13 4) g) (fun r115 g115 => (some (r115, g115)))) (fun (v1 : Int32) (v2 : Int32) (v3 : Int32) (g : z_S) => z_g (z_in v2 16) (z_s (z_wi g 16 (v2).toNatClampNeg v3) (fun g164 => (z_g (z_in v2 16) (z_s (z_wi g164 17 (v2).toNatClampNeg 1) (fun g174 => (z_g (z_in v2 16) (z_s (z_wi g174 18 (v2).toNatClampNeg 0) (fun g184 => (z_b (fX0_isToldAgain v2 g184) (fun r187 g187 => (if r187 = 0 then (some (0, g187)) else (z_b (fX0_blame 4 v1 g187) (fun r196 g196 => (some (r196, g196))))))))))))))))) zN ((g.1 13 4), (g9.1 14 0), 0) g9)))))
def fX0_isFigure (v0 : Int32) (g : z_S) : Option (Int32 × z_S) :=
  if v0 < 48 then (some (0, g)) else (if 57 < v0 then (some (0, g)) else (some (1, g)))
def fX0_parseNumber_B38 (k95 : Int32 → Int32 → Int32 → Int32 → z_S → Option (Int32 × z_S)) (rc : (Int32 × Int32 × Int32 × Int32) → z_S → Option (Int32 × z_S)) (a : Int32 × Int32 × Int32 × Int32) (g : z_S) : Option (Int32 × z_S) := match a with
  | (v2, v3, v4, v5) =>
  if g.1 9 1 ≤ g.1 13 4 then (k95 v2 v3 v4 v5 g) else (z_b (fX0_here g) (fun r53 g53 => (z_b (fX0_isFigure r53 g53) (fun r56 g56 => (if r56 = 0 then (k95 v2 v3 v4 v5 g56) else (z_b (fX0_here g56) (fun r68 g68 => (z_s (z_wi g68 13 4 ((g68.1 13 4) + 1)) (fun g89 => (rc (v2, v3, v4, (if 100 < ((v5 * 10) + r68) - 48 then 100 else ((v5 * 10) + r68) - 48)) g89))))))))))
def fX0_parseNumber_J131 (v4 : Int32) (g : z_S) : Option (Int32 × z_S) :=
  z_b (fX0_blame 2 v4 g) (fun r135 g135 => (some (r135, g135)))
def fX0_parseNumber (v1 : Int32) (v2 : Int32) (v3 : Int32) (g : z_S) : Option (Int32 × z_S) :=
  z_s (z_wi g 13 5 (-1)) (fun g2 => (z_b (fX0_here g2) (fun r6 g6 => (if r6 = v1 then (z_s (z_wi g6 13 4 ((g6.1 13 4) + 1)) (fun g22 => (z_b (fX0_skipBlanks g22) (fun _ g26 => (z_loop (fX0_parseNumber_B38 (fun (v2 : Int32) (v3 : Int32) (v4 : Int32) (v5 : Int32) (g : z_S) => if g.1 13 4 = v4 then (z_b (fX0_blame 1 (g.1 13 4) g) (fun r110 g110 => (some (r110, g110)))) else (if v2 < (g.1 13 4) - v4 then (fX0_parseNumber_J131 v4 g) else (if v5 ≤ v3 then (z_s (z_wi g 13 5 v5) (fun g142 => (z_b (fX0_skipBlanks g142) (fun _ g146 => (some (0, g146)))))) else (fX0_parseNumber_J131 v4 g))))) zN (v2, v3, (g26.1 13 4), 0) g26))))) else (some (0, g6))))))
def fX0_parseCost (g : z_S) : Option (Int32 × z_S) :=
  z_b (fX0_parseNumber 58 2 99 g) (fun r6 g6 => (if r6 = 0 then (if g6.1 13 5 = (-1) then (some (r6, g6)) else (z_g (z_in (g6.1 14 0) 16) (z_s (z_wi g6 17 (g6.1 14 0).toNatClampNeg (g6.1 13 5)) (fun g40 => (some (r6, g40)))))) else (some (r6, g6))))
def fX0_parseKind (g : z_S) : Option (Int32 × z_S) :=
  z_b (fX0_parseNumber 47 1 3 g) (fun r5 g5 => (if r5 = 0 then (if g5.1 13 5 = (-1) then (some (r5, g5)) else (z_g (z_in (g5.1 14 0) 16) (z_s (z_wi g5 18 (g5.1 14 0).toNatClampNeg (g5.1 13 5)) (fun g39 => (some (r5, g39)))))) else (some (r5, g5))))
def fX0_parseClause_J23 (v1 : Int32) (g : z_S) : Option (Int32 × z_S) :=
  if v1 = 0 then (z_b (fX0_here g) (fun r30 g30 => (if r30 = 59 then (z_s (z_wi g30 13 4 ((g30.1 13 4) + 1)) (fun g55 => (z_s (z_wi g55 14 0 ((g55.1 14 0) + 1)) (fun g68 => (some (0, g68)))))) else (z_b (fX0_blame 1 (g30.1 13 4) g30) (fun r44 g44 => (some (r44, g44))))))) else (some (v1, g))
def fX0_parseClause_J14 (v1 : Int32) (g : z_S) : Option (Int32 × z_S) :=
  if v1 = 0 then (z_b (fX0_parseKind g) (fun r19 g19 => (fX0_parseClause_J23 r19 g19))) else (fX0_parseClause_J23 v1 g)
def fX0_parseClause (g : z_S) : Option (Int32 × z_S) :=
  z_b (fX0_parseLetters g) (fun r1 g1 => (if r1 = 0 then (z_b (fX0_parseCost g1) (fun r10 g10 => (fX0_parseClause_J14 r10 g10))) else (fX0_parseClause_J14 r1 g1)))
def fX0_parse_B24 (rc : Int32 → z_S → Option (Int32 × z_S)) (v1 : Int32) (g : z_S) : Option (Int32 × z_S) :=
  if 200 < v1 then (some (0, g)) else (if g.1 9 1 ≤ g.1 13 4 then (some (0, g)) else (z_b (fX0_parseClause g) (fun r46 g46 => (if r46 = 0 then (z_b (fX0_skipBlanks g46) (fun _ g57 => (rc (v1 + 1) g57))) else (some (r46, g46))))))
def fX0_parse (g : z_S) : Option (Int32 × z_S) :=
  z_s (z_wi g 13 1 (-1)) (fun g2 => (z_s (z_wi g2 14 0 0) (fun g10 => (z_s (z_wi g10 13 4 0) (fun g15 => (z_b (fX0_skipBlanks g15) (fun _ g19 => (z_loop fX0_parse_B24 zN 0 g19))))))))
def fX9_become_4_14_B10 (k60 : z_S → Option (Unit × z_S)) (rc : Int32 → z_S → Option (Unit × z_S)) (v2 : Int32) (g : z_S) : Option (Unit × z_S) :=
  if g.1 4 0 ≤ v2 then (k60 g) else (z_g (z_in v2 16) (z_g (z_in v2 16) (z_s (z_wi g 6 (v2).toNatClampNeg (g.1 16 (v2).toNatClampNeg)) (fun g29 => (z_g (z_in v2 16) (z_g (z_in v2 16) (z_s (z_wi g29 7 (v2).toNatClampNeg (g29.1 17 (v2).toNatClampNeg)) (fun g41 => (z_g (z_in v2 16) (z_g (z_in v2 16) (z_s (z_wi g41 8 (v2).toNatClampNeg (g41.1 18 (v2).toNatClampNeg)) (fun g53 => (rc (v2 + 1) g53)))))))))))))
def fX9_become_4_14_B62 (rc : Int32 → z_S → Option (Unit × z_S)) (v2 : Int32) (g : z_S) : Option (Unit × z_S) :=
  if (g.1 4 0) * 8 ≤ v2 then (some ((), g)) else (z_g (z_in v2 128) (z_g (z_in v2 128) (z_s (z_wi g 5 (v2).toNatClampNeg (g.1 15 (v2).toNatClampNeg)) (fun g84 => (rc (v2 + 1) g84)))))
def fX9_become_4_14 (g : z_S) : Option (Unit × z_S) :=
  z_s (z_wi g 4 0 (g.1 14 0)) (fun g5 => (z_loop (fX9_become_4_14_B10 (fun (g : z_S) => z_loop fX9_become_4_14_B62 zN 0 g)) zN 0 g5))
def fX10_read (g : z_S) : Option (Int32 × z_S) :=
  z_b (fX0_parse g) (fun r4 g4 => (z_s (z_wi g4 9 1 0) (fun g13 => (if r4 = 0 then (z_b (fX9_become_4_14 g13) (fun _ g36 => (z_b (fX10_forgetFound g36) (fun _ g40 => (some (g40.1 4 0, g40)))))) else (some ((-10) - r4, g13))))))
def fX10_fault (g : z_S) : Option (Int32 × z_S) :=
  some (g.1 13 1, g)
def fX9_has_4 (v1 : Int32) (g : z_S) : Option (Int32 × z_S) :=
  if v1 < 0 then (some (0, g)) else (if g.1 4 0 ≤ v1 then (some (0, g)) else (some (1, g)))
def fX9_sign_4 (v1 : Int32) (v2 : Int32) (g : z_S) : Option (Int32 × z_S) :=
  z_g (z_in ((v1 * 8) + v2) 128) (some (g.1 5 ((v1 * 8) + v2).toNatClampNeg, g))
def fX10_word (v1 : Int32) (v2 : Int32) (g : z_S) : Option (Int32 × z_S) :=
  z_b (fX9_has_4 v1 g) (fun r5 g5 => (if r5 = 0 then (some ((-1001), g5)) else (if v2 < 0 then (some ((-1002), g5)) else (if v2 ≤ 10 then (if v2 = 0 then (z_g (z_in v1 16) (some (g5.1 7 (v1).toNatClampNeg, g5))) else (if v2 = 1 then (z_g (z_in v1 16) (some (g5.1 8 (v1).toNatClampNeg, g5))) else (if v2 = 2 then (z_g (z_in v1 16) (some (g5.1 6 (v1).toNatClampNeg, g5))) else (z_g (z_in v1 16) (if g5.1 6 (v1).toNatClampNeg ≤ v2 - 3 then (some ((-1), g5)) else (z_b (fX9_sign_4 v1 (v2 - 3) g5) (fun r109 g109 => (some (r109, g109))))))))) else (some ((-1002), g5))))))
def fX7_mayCome (v1 : Int32) (v2 : Int32) (g : z_S) : Option (Int32 × z_S) :=
  if v1 = 4 then (some (1, g)) else (z_g (z_in ((v1 * 4) + v2) 16) (if g.1 2 ((v1 * 4) + v2).toNatClampNeg = 0 then (some (1, g)) else (some (0, g))))
def fX10_follows_J62 (v4 : Int32) (s0 : Int32) (s1 : Int32) (g : z_S) : Option (Int32 × z_S) :=
  z_g (z_in s1 16) (z_s (z_wi g 2 (s1).toNatClampNeg (s0 &&& 1)) (fun g62 => (z_b (fX10_forgetFound g62) (fun _ g64 => (some (v4, g64))))))
def fX10_follows_J39 (v1 : Int32) (v2 : Int32) (v3 : Int32) (s0 : Int32) (g : z_S) : Option (Int32 × z_S) :=
  if v3 = 0 then (fX10_follows_J62 s0 1 ((v1 * 4) + v2) g) else (fX10_follows_J62 s0 0 ((v1 * 4) + v2) g)
def fX10_follows (v1 : Int32) (v2 : Int32) (v3 : Int32) (g : z_S) : Option (Int32 × z_S) :=
  if v1 < 0 then (some ((-1002), g)) else (if 4 ≤ v1 then (some ((-1002), g)) else (if v2 < 0 then (some ((-1002), g)) else (if v2 < 4 then (z_b (fX7_mayCome v1 v2 g) (fun r28 g28 => (if r28 = 0 then (fX10_follows_J39 v1 v2 v3 0 g28) else (fX10_follows_J39 v1 v2 v3 1 g28)))) else (some ((-1002), g)))))
def fX10_count (v1 : Int32) (g : z_S) : Option (Int32 × z_S) :=
  if v1 = 0 then (some (g.1 1 0, g)) else (if v1 = 1 then (some (g.1 4 0, g)) else (if v1 = 2 then (some (g.1 11 1, g)) else (if v1 = 3 then (some (g.1 9 1, g)) else (if v1 = 4 then (some (g.1 26 0, g)) else (some ((-1002), g))))))
def fX6_put_11 (v1 : Int32) (g : z_S) : Option (Unit × z_S) :=
  if 48 ≤ g.1 11 1 then (some ((), g)) else (z_g (z_in (g.1 11 1) 48) (z_s (z_wi g 12 (g.1 11 1).toNatClampNeg v1) (fun g21 => (z_s (z_wi g21 11 1 ((g21.1 11 1) + 1)) (fun g29 => (some ((), g29)))))))
def fX10_letter (v1 : Int32) (g : z_S) : Option (Int32 × z_S) :=
  if v1 < 0 then (some ((-1002), g)) else (if v1 < g.1 1 0 then (if g.1 11 1 < 48 then (z_b (fX6_put_11 v1 g) (fun _ g40 => (some (g40.1 11 1, g40)))) else (some ((-1004), g))) else (some ((-1002), g)))
def fX10_append_B43 (rc : (Int32 × Int32) → z_S → Option (Int32 × z_S)) (a : Int32 × Int32) (g : z_S) : Option (Int32 × z_S) := match a with
  | (v1, v2) =>
  z_g (z_in v1 16) (if g.1 6 (v1).toNatClampNeg ≤ v2 then (some (g.1 11 1, g)) else (z_b (fX9_sign_4 v1 v2 g) (fun r66 g66 => (z_b (fX6_put_11 r66 g66) (fun _ g69 => (rc (v1, (v2 + 1)) g69))))))
def fX10_append (v1 : Int32) (g : z_S) : Option (Int32 × z_S) :=
  z_b (fX9_has_4 v1 g) (fun r5 g5 => (if r5 = 0 then (some ((-1001), g5)) else (z_g (z_in v1 16) (if (g5.1 11 1) + (g5.1 6 (v1).toNatClampNeg) ≤ 48 then (z_loop fX10_append_B43 zN (v1, 0) g5) else (some ((-1004), g5))))))
def fX10_clear (g : z_S) : Option (Int32 × z_S) :=
  z_s (z_wi g 11 1 0) (fun g13 => (some (g.1 11 1, g13)))
def fX9_standsAt_4_11_B24 (rc : (Int32 × Int32 × Int32) → z_S → Option (Int32 × z_S)) (a : Int32 × Int32 × Int32) (g : z_S) : Option (Int32 × z_S) := match a with
  | (v1, v3, v4) =>
  z_g (z_in v1 16) (if g.1 6 (v1).toNatClampNeg ≤ v4 then (some (1, g)) else (z_g (z_in (v3 + v4) 48) (z_b (fX9_sign_4 v1 v4 g) (fun r48 g48 => (if g.1 12 (v3 + v4).toNatClampNeg = r48 then (rc (v1, v3, (v4 + 1)) g48) else (some (0, g48)))))))
def fX9_standsAt_4_11 (v1 : Int32) (v3 : Int32) (g : z_S) : Option (Int32 × z_S) :=
  if v3 < 0 then (some (0, g)) else (z_g (z_in v1 16) (if v3 + (g.1 6 (v1).toNatClampNeg) ≤ g.1 11 1 then (z_loop fX9_standsAt_4_11_B24 zN (v1, v3, 0) g) else (some (0, g))))
def fX9_standingAt_4_11_B5 (rc : (Int32 × Int32 × Int32) → z_S → Option (Int32 × z_S)) (a : Int32 × Int32 × Int32) (g : z_S) : Option (Int32 × z_S) := match a with
  | (v2, v3, v4) =>
  if g.1 4 0 ≤ v4 then (some (v3, g)) else (z_b (fX9_standsAt_4_11 v4 v2 g) (fun r19 g19 => (if r19 = 0 then (rc (v2, v3, (v4 + 1)) g19) else (rc (v2, (v3 ||| (1 <<< (v4 &&& 31))), (v4 + 1)) g19))))
def fX9_standingAt_4_11 (v2 : Int32) (g : z_S) : Option (Int32 × z_S) :=
  z_loop fX9_standingAt_4_11_B5 zN (v2, 0, 0) g
def fX5_behind (v1 : Int32) (v2 : Int32) (g : z_S) : Option (Int32 × z_S) :=
  z_g (z_in v2 16) (z_g (z_in v2 16) (some (((v1 + (g.1 6 (v2).toNatClampNeg)) * 5) + (g.1 8 (v2).toNatClampNeg), g)))
def fX5_weight (v1 : Int32) (v2 : Int32) (g : z_S) : Option (Int32 × z_S) :=
  if g.1 19 6 = 1 then (z_g (z_in v1 16) (some (g.1 7 (v1).toNatClampNeg, g))) else (if g.1 19 6 = 2 then (some (1, g)) else (if g.1 19 6 = 3 then (some ((-1), g)) else (if g.1 19 6 = 4 then (if v2 = g.1 19 7 then (some (1, g)) else (some (0, g))) else (if g.1 19 6 = 5 then (if v2 = g.1 19 7 then (some ((-1), g)) else (some (0, g))) else (some (0, g))))))
def fX5_weightFrom (v1 : Int32) (v2 : Int32) (v3 : Int32) (g : z_S) : Option (Int32 × z_S) :=
  z_g (z_in v1 49) (if ((g.1 20 (v1).toNatClampNeg) >>> (v3 &&& 31)) &&& 1 = 0 then (some (1000000000, g)) else (z_g (z_in v3 16) (z_b (fX7_mayCome v2 (g.1 8 (v3).toNatClampNeg) g) (fun r27 g27 => (if r27 = 0 then (some (1000000000, g27)) else (z_b (fX5_behind v1 v3 g27) (fun r43 g43 => (z_g (z_in r43 245) (if g43.1 21 (r43).toNatClampNeg < 1000000000 then (z_g (z_in v3 16) (z_b (fX5_weight v3 (v1 + (g43.1 6 (v3).toNatClampNeg)) g43) (fun r76 g76 => (some ((g43.1 21 (r43).toNatClampNeg) + r76, g76))))) else (some (1000000000, g43)))))))))))
def fX10_addCapped (v0 : Int64) (v2 : Int64) (g : z_S) : Option (Int64 × z_S) :=
  some (if 1000000000000001 < v0 + v2 then 1000000000000001 else v0 + v2, g)
def fX5_measureFrom_J43 (rc : (Int32 × Int32 × Int32 × Int64 × Int32) → z_S → Option (Unit × z_S)) (v1 : Int32) (v2 : Int32) (v3 : Int32) (v4 : Int64) (v6 : Int32) (v7 : Int32) (g : z_S) : Option (Unit × z_S) :=
  if 1000000000 ≤ v7 then (rc (v1, v2, v3, v4, (v6 + 1)) g) else (if v7 = v3 then (z_b (fX5_behind v1 v6 g) (fun r66 g66 => (z_g (z_in r66 245) (z_b (fX10_addCapped v4 (g66.2 22 (r66).toNatClampNeg) g66) (fun r70 g70 => (rc (v1, v2, v3, r70, (v6 + 1)) g70)))))) else (rc (v1, v2, v3, v4, (v6 + 1)) g))
def fX5_measureFrom_B9 (k81 : Int32 → Int32 → Int32 → Int64 → z_S → Option (Unit × z_S)) (rc : (Int32 × Int32 × Int32 × Int64 × Int32) → z_S → Option (Unit × z_S)) (a : Int32 × Int32 × Int32 × Int64 × Int32) (g : z_S) : Option (Unit × z_S) := match a with
  | (v1, v2, v3, v4, v6) =>
  if g.1 4 0 ≤ v6 then (k81 v1 v2 v3 v4 g) else (z_b (fX5_weightFrom v1 v2 v6 g) (fun r26 g26 => (if v3 ≤ r26 then (fX5_measureFrom_J43 rc v1 v2 v3 v4 v6 r26 g26) else (fX5_measureFrom_J43 rc v1 v2 r26 0 v6 r26 g26))))
def fX5_measureFrom (v1 : Int32) (v2 : Int32) (g : z_S) : Option (Unit × z_S) :=
  z_loop (fX5_measureFrom_B9 (fun (v1 : Int32) (v2 : Int32) (v3 : Int32) (v4 : Int64) (g : z_S) => z_g (z_in ((v1 * 5) + v2) 245) (z_s (z_wi g 21 ((v1 * 5) + v2).toNatClampNeg v3) (fun g91 => (z_g (z_in ((v1 * 5) + v2) 245) (z_s (z_wl g91 22 ((v1 * 5) + v2).toNatClampNeg v4) (fun g103 => (some ((), g103))))))))) zN (v1, v2, 1000000000, 0, 0) g
def fX5_measure_B12 (k57 : z_S → Option (Unit × z_S)) (rc : Int32 → z_S → Option (Unit × z_S)) (v3 : Int32) (g : z_S) : Option (Unit × z_S) :=
  if 5 ≤ v3 then (k57 g) else (z_g (z_in (((g.1 11 1) * 5) + v3) 245) (z_s (z_wi g 21 (((g.1 11 1) * 5) + v3).toNatClampNeg 0) (fun g33 => (z_g (z_in (((g33.1 11 1) * 5) + v3) 245) (z_s (z_wl g33 22 (((g33.1 11 1) * 5) + v3).toNatClampNeg 1) (fun g50 => (rc (v3 + 1) g50)))))))
def fX5_measure_B92 (k111 : Int32 → z_S → Option (Unit × z_S)) (rc : (Int32 × Int32) → z_S → Option (Unit × z_S)) (a : Int32 × Int32) (g : z_S) : Option (Unit × z_S) := match a with
  | (v3, v4) =>
  if 5 ≤ v4 then (k111 v3 g) else (z_b (fX5_measureFrom v3 v4 g) (fun _ g102 => (rc (v3, (v4 + 1)) g102)))
def fX5_measure_B67 (rc : Int32 → z_S → Option (Unit × z_S)) (v3 : Int32) (g : z_S) : Option (Unit × z_S) :=
  if v3 < 0 then (some ((), g)) else (z_b (fX9_standingAt_4_11 v3 g) (fun r85 g85 => (z_g (z_in v3 49) (z_s (z_wi g85 20 (v3).toNatClampNeg r85) (fun g88 => (z_loop (fX5_measure_B92 (fun (v3 : Int32) (g : z_S) => rc (v3 + (-1)) g)) zN (v3, 0) g88))))))
def fX5_measure (v1 : Int32) (v2 : Int32) (g : z_S) : Option (Unit × z_S) :=
  z_s (z_wi g 19 6 v1) (fun g2 => (z_s (z_wi g2 19 7 v2) (fun g7 => (z_loop (fX5_measure_B12 (fun (g : z_S) => z_loop fX5_measure_B67 zN ((g.1 11 1) - 1) g)) zN 0 g7))))
def fX5_manyInAll (g : z_S) : Option (Int64 × z_S) :=
  z_g (z_in 4 245) (some (g.2 22 (4 : Int32).toNatClampNeg, g))
def fX10_readings (g : z_S) : Option (Int64 × z_S) :=
  z_b (fX5_measure 0 (-1) g) (fun _ g6 => (z_b (fX5_manyInAll g6) (fun r13 g13 => (if r13 ≤ 1000000000000000 then (some (r13, g13)) else (some ((-1005), g13))))))
def fX5_choose_B14 (rc : (Int32 × Int32 × Int32 × Int32) → z_S → Option (Int32 × z_S)) (a : Int32 × Int32 × Int32 × Int32) (g : z_S) : Option (Int32 × z_S) := match a with
  | (v1, v2, v3, v4) =>
  if g.1 4 0 ≤ v4 then (some ((-1), g)) else (z_b (fX5_weightFrom v1 v2 v4 g) (fun r31 g31 => (if 1000000000 ≤ r31 then (rc (v1, v2, v3, (v4 + 1)) g31) else (if r31 ≤ v3 then (z_b (fX5_behind v1 v4 g31) (fun r60 g60 => (z_g (z_in r60 245) (if g60.2 22 (r60).toNatClampNeg ≤ g60.2 19 8 then (z_s (z_wl g60 19 8 ((g60.2 19 8) - (g60.2 22 (r60).toNatClampNeg))) (fun g87 => (rc (v1, v2, v3, (v4 + 1)) g87))) else (some (v4, g60)))))) else (rc (v1, v2, v3, (v4 + 1)) g31)))))
def fX5_choose (v1 : Int32) (v2 : Int32) (g : z_S) : Option (Int32 × z_S) :=
  z_g (z_in ((v1 * 5) + v2) 245) (z_loop fX5_choose_B14 zN (v1, v2, (g.1 21 ((v1 * 5) + v2).toNatClampNeg), 0) g)
def fX5_wordOfLeast_B27 (rc : (Int32 × Int32 × Int32 × Int32) → z_S → Option (Int32 × z_S)) (a : Int32 × Int32 × Int32 × Int32) (g : z_S) : Option (Int32 × z_S) := match a with
  | (v3, v4, v5, v6) =>
  if v3 < v6 then (some ((-1), g)) else (if g.1 11 1 ≤ v4 then (some ((-1), g)) else (z_b (fX5_choose v4 v5 g) (fun r50 g50 => (if r50 = (-1) then (some (r50, g50)) else (if v6 = v3 then (some (r50, g50)) else (z_g (z_in r50 16) (z_g (z_in r50 16) (rc (v3, (v4 + (g50.1 6 (r50).toNatClampNeg)), (g50.1 8 (r50).toNatClampNeg), (v6 + 1)) g50))))))))
def fX5_wordOfLeast (v1 : Int64) (v3 : Int32) (g : z_S) : Option (Int32 × z_S) :=
  z_g (z_in 4 245) (if v1 < g.2 22 (4 : Int32).toNatClampNeg then (z_s (z_wl g 19 8 v1) (fun g15 => (z_loop fX5_wordOfLeast_B27 zN (v3, 0, 4, 0) g15))) else (some ((-1), g)))
def fX10_reading (v1 : Int64) (v3 : Int32) (g : z_S) : Option (Int32 × z_S) :=
  if v1 < 0 then (some ((-1002), g)) else (if v1 ≤ 1000000000000000 then (z_b (fX5_measure 0 (-1) g) (fun _ g24 => (z_b (fX5_wordOfLeast v1 v3 g24) (fun r33 g33 => (some (r33, g33)))))) else (some ((-1002), g)))
def fX5_isReadable (g : z_S) : Option (Int32 × z_S) :=
  z_g (z_in 4 245) (if g.2 22 (4 : Int32).toNatClampNeg ≤ 0 then (some (0, g)) else (some (1, g)))
def fX5_leastInAll (g : z_S) : Option (Int32 × z_S) :=
  z_g (z_in 4 245) (some (g.1 21 (4 : Int32).toNatClampNeg, g))
def fX10_best (v1 : Int32) (g : z_S) : Option (Int32 × z_S) :=
  if v1 = 0 then (z_b (fX5_measure 1 (-1) g) (fun _ g38 => (z_b (fX5_isReadable g38) (fun r45 g45 => (if r45 = 0 then (some ((-1), g45)) else (z_b (fX5_leastInAll g45) (fun r55 g55 => (some (r55, g55))))))))) else (if v1 = 1 then (z_b (fX5_measure 1 (-1) g) (fun _ g69 => (z_b (fX5_manyInAll g69) (fun r76 g76 => (if r76 ≤ 1000000000 then (z_b (fX5_manyInAll g76) (fun r96 g96 => (some ((r96).toInt32, g96)))) else (some ((-1005), g76))))))) else (if v1 = 2 then (z_b (fX5_measure 2 (-1) g) (fun _ g107 => (z_b (fX5_isReadable g107) (fun r114 g114 => (if r114 = 0 then (some ((-1), g114)) else (z_b (fX5_leastInAll g114) (fun r124 g124 => (some (r124, g124))))))))) else (if v1 = 3 then (z_b (fX5_measure 3 (-1) g) (fun _ g138 => (z_b (fX5_isReadable g138) (fun r145 g145 => (if r145 = 0 then (some ((-1), g145)) else (z_b (fX5_leastInAll g145) (fun r155 g155 => (some (-r155, g155))))))))) else (some ((-1002), g)))))
def fX10_cheapest (v1 : Int32) (g : z_S) : Option (Int32 × z_S) :=
  z_b (fX5_measure 1 (-1) g) (fun _ g6 => (z_b (fX5_wordOfLeast 0 v1 g6) (fun r15 g15 => (some (r15, g15)))))
def fX10_end (v1 : Int32) (g : z_S) : Option (Int32 × z_S) :=
  if v1 < 0 then (some ((-1002), g)) else (if v1 ≤ g.1 11 1 then (z_b (fX5_measure 4 v1 g) (fun _ g25 => (z_b (fX5_isReadable g25) (fun r32 g32 => (if r32 = 0 then (some (0, g32)) else (if v1 = 0 then (some (2, g32)) else (z_b (fX5_leastInAll g32) (fun r48 g48 => (if r48 ≤ 0 then (z_b (fX5_measure 5 v1 g48) (fun _ g62 => (z_b (fX5_leastInAll g62) (fun r69 g69 => (if 0 ≤ r69 then (some (0, g69)) else (some (1, g69))))))) else (some (2, g48))))))))))) else (some ((-1002), g)))
def fX9_liesAt_4_J84 (rc : (Int32 × Int32 × Int32 × Int32 × Int32 × Int32) → z_S → Option (Int32 × z_S)) (v1 : Int32) (v2 : Int32) (v3 : Int32) (v4 : Int32) (v5 : Int32) (v6 : Int32) (s0 : Int32) (g : z_S) : Option (Int32 × z_S) :=
  z_b (fX9_sign_4 v1 v6 g) (fun r92 g92 => (if s0 = r92 then (rc (v1, v2, v3, v4, v5, (v6 + 1)) g92) else (some (0, g92))))
def fX9_liesAt_4_B39 (rc : (Int32 × Int32 × Int32 × Int32 × Int32 × Int32) → z_S → Option (Int32 × z_S)) (a : Int32 × Int32 × Int32 × Int32 × Int32 × Int32) (g : z_S) : Option (Int32 × z_S) := match a with
  | (v1, v2, v3, v4, v5, v6) =>
  z_g (z_in v1 16) (if g.1 6 (v1).toNatClampNeg ≤ v6 then (some (1, g)) else (if v5 ≤ v4 + v6 then (z_b (fX9_sign_4 v3 ((v4 + v6) - v5) g) (fun r81 g81 => (fX9_liesAt_4_J84 rc v1 v2 v3 v4 v5 v6 r81 g81))) else (z_b (fX9_sign_4 v2 (v4 + v6) g) (fun r68 g68 => (fX9_liesAt_4_J84 rc v1 v2 v3 v4 v5 v6 r68 g68)))))
def fX9_liesAt_4 (v1 : Int32) (v2 : Int32) (v3 : Int32) (v4 : Int32) (g : z_S) : Option (Int32 × z_S) :=
  z_g (z_in v2 16) (if v4 < 0 then (some (0, g)) else (z_g (z_in v1 16) (z_g (z_in v3 16) (if v4 + (g.1 6 (v1).toNatClampNeg) ≤ (g.1 6 (v2).toNatClampNeg) + (g.1 6 (v3).toNatClampNeg) then (z_loop fX9_liesAt_4_B39 zN (v1, v2, v3, v4, (g.1 6 (v2).toNatClampNeg), 0) g) else (some (0, g))))))
def fX10_isHiddenIn_J75 (rc : (Int32 × Int32 × Int32 × Int32 × Int32) → z_S → Option (Int32 × z_S)) (v1 : Int32) (v2 : Int32) (v3 : Int32) (v4 : Int32) (v5 : Int32) (s0 : Int32) (g : z_S) : Option (Int32 × z_S) :=
  if s0 = 0 then (z_b (fX9_liesAt_4 v1 v2 v3 v5 g) (fun r91 g91 => (if r91 = 0 then (rc (v1, v2, v3, v4, (v5 + 1)) g91) else (some (1, g91))))) else (rc (v1, v2, v3, v4, (v5 + 1)) g)
def fX10_isHiddenIn_J51 (rc : (Int32 × Int32 × Int32 × Int32 × Int32) → z_S → Option (Int32 × z_S)) (v1 : Int32) (v2 : Int32) (v3 : Int32) (v4 : Int32) (v5 : Int32) (g : z_S) : Option (Int32 × z_S) :=
  z_g (z_in v2 16) (if v5 = g.1 6 (v2).toNatClampNeg then (if v1 = v3 then (fX10_isHiddenIn_J75 rc v1 v2 v3 v4 v5 1 g) else (fX10_isHiddenIn_J75 rc v1 v2 v3 v4 v5 0 g)) else (fX10_isHiddenIn_J75 rc v1 v2 v3 v4 v5 0 g))
def fX10_isHiddenIn_B34 (rc : (Int32 × Int32 × Int32 × Int32 × Int32) → z_S → Option (Int32 × z_S)) (a : Int32 × Int32 × Int32 × Int32 × Int32) (g : z_S) : Option (Int32 × z_S) := match a with
  | (v1, v2, v3, v4, v5) =>
  if v4 < v5 then (some (0, g)) else (if v5 = 0 then (if v1 = v2 then (fX10_isHiddenIn_J75 rc v1 v2 v3 v4 v5 1 g) else (fX10_isHiddenIn_J51 rc v1 v2 v3 v4 v5 g)) else (fX10_isHiddenIn_J51 rc v1 v2 v3 v4 v5 g))
def fX10_isHiddenIn (v1 : Int32) (v2 : Int32) (v3 : Int32) (g : z_S) : Option (Int32 × z_S) :=
  z_g (z_in v2 16) (z_g (z_in v3 16) (z_g (z_in v1 16) (z_loop fX10_isHiddenIn_B34 zN (v1, v2, v3, (((g.1 6 (v2).toNatClampNeg) + (g.1 6 (v3).toNatClampNeg)) - (g.1 6 (v1).toNatClampNeg)), 0) g)))
def fX10_isHidden_B15 (k44 : Int32 → Int32 → z_S → Option (Int32 × z_S)) (rc : (Int32 × Int32 × Int32) → z_S → Option (Int32 × z_S)) (a : Int32 × Int32 × Int32) (g : z_S) : Option (Int32 × z_S) := match a with
  | (v1, v2, v3) =>
  if g.1 4 0 ≤ v3 then (k44 v1 v2 g) else (z_b (fX10_isHiddenIn v1 v2 v3 g) (fun r30 g30 => (if r30 = 0 then (rc (v1, v2, (v3 + 1)) g30) else (some (1, g30)))))
def fX10_isHidden_B2 (rc : (Int32 × Int32) → z_S → Option (Int32 × z_S)) (a : Int32 × Int32) (g : z_S) : Option (Int32 × z_S) := match a with
  | (v1, v2) =>
  if g.1 4 0 ≤ v2 then (some (0, g)) else (z_loop (fX10_isHidden_B15 (fun (v1 : Int32) (v2 : Int32) (g : z_S) => rc (v1, (v2 + 1)) g)) zN (v1, v2, 0) g)
def fX10_isHidden (v1 : Int32) (g : z_S) : Option (Int32 × z_S) :=
  z_loop fX10_isHidden_B2 zN (v1, 0) g
def fX10_countHidden_B4 (rc : (Int32 × Int32) → z_S → Option (Int32 × z_S)) (a : Int32 × Int32) (g : z_S) : Option (Int32 × z_S) := match a with
  | (v1, v2) =>
  if g.1 4 0 ≤ v2 then (some (v1, g)) else (z_b (fX10_isHidden v2 g) (fun r17 g17 => (if r17 = 0 then (rc (v1, (v2 + 1)) g17) else (rc ((v1 + 1), (v2 + 1)) g17))))
def fX10_countHidden (g : z_S) : Option (Int32 × z_S) :=
  z_loop fX10_countHidden_B4 zN (0, 0) g
def fX10_countPairs_J76 (rc : (Int32 × Int32 × Int32 × Int32) → z_S → Option (Int32 × z_S)) (v1 : Int32) (v2 : Int32) (v3 : Int32) (v4 : Int32) (s0 : Int32) (s1 : Int32) (s2 : Int32) (s3 : Int32) (g : z_S) : Option (Int32 × z_S) :=
  z_b (fX9_liesAt_4 s3 s2 s1 s0 g) (fun r76 g76 => (if r76 = 0 then (rc (v1, v2, v3, (v4 + 1)) g76) else (rc (v1, (v2 + 1), v3, (v4 + 1)) g76)))
def fX10_countPairs_B18 (k91 : Int32 → Int32 → Int32 → z_S → Option (Int32 × z_S)) (rc : (Int32 × Int32 × Int32 × Int32) → z_S → Option (Int32 × z_S)) (a : Int32 × Int32 × Int32 × Int32) (g : z_S) : Option (Int32 × z_S) := match a with
  | (v1, v2, v3, v4) =>
  if g.1 4 0 ≤ v4 then (k91 v1 v2 v3 g) else (z_g (z_in v4 16) (z_g (z_in v3 16) (if (g.1 6 (v4).toNatClampNeg) - (g.1 6 (v3).toNatClampNeg) ≤ 0 then (rc (v1, v2, v3, (v4 + 1)) g) else (if v1 = 0 then (fX10_countPairs_J76 rc v1 v2 v3 v4 ((g.1 6 (v4).toNatClampNeg) - (g.1 6 (v3).toNatClampNeg)) v4 v4 v3 g) else (fX10_countPairs_J76 rc v1 v2 v3 v4 0 v4 v4 v3 g)))))
def fX10_countPairs_B4 (rc : (Int32 × Int32 × Int32) → z_S → Option (Int32 × z_S)) (a : Int32 × Int32 × Int32) (g : z_S) : Option (Int32 × z_S) := match a with
  | (v1, v2, v3) =>
  if g.1 4 0 ≤ v3 then (some (v2, g)) else (z_loop (fX10_countPairs_B18 (fun (v1 : Int32) (v2 : Int32) (v3 : Int32) (g : z_S) => rc (v1, v2, (v3 + 1)) g)) zN (v1, v2, v3, 0) g)
def fX10_countPairs (v1 : Int32) (g : z_S) : Option (Int32 × z_S) :=
  z_loop fX10_countPairs_B4 zN (v1, 0, 0) g
def fX10_within (v1 : Int32) (g : z_S) : Option (Int32 × z_S) :=
  if v1 = 0 then (z_b (fX10_countPairs 1 g) (fun r30 g30 => (some (r30, g30)))) else (if v1 = 1 then (z_b (fX10_countPairs 0 g) (fun r36 g36 => (some (r36, g36)))) else (if v1 = 2 then (z_b (fX10_countHidden g) (fun r41 g41 => (some (r41, g41)))) else (some ((-1002), g))))
def fX10_states (g : z_S) : Option (Unit × z_S) :=
  some ((), g)
def fX4_empty_58 (g : z_S) : Option (Unit × z_S) :=
  z_s (z_wl g 58 0 0) (fun g2 => (z_s (z_wl g2 58 1 0) (fun g7 => (some ((), g7)))))
def fX4_empty_59 (g : z_S) : Option (Unit × z_S) :=
  z_s (z_wl g 59 0 0) (fun g2 => (z_s (z_wl g2 59 1 0) (fun g7 => (some ((), g7)))))
def fX4_lowBit (v0 : Int32) (g : z_S) : Option (Int64 × z_S) :=
  if 64 ≤ v0 then (some (0, g)) else (some (1 <<< ((v0).toInt64 &&& 63), g))
def fX4_highBit (v0 : Int32) (g : z_S) : Option (Int64 × z_S) :=
  if 64 ≤ v0 then (some (1 <<< ((v0 - 64).toInt64 &&& 63), g)) else (some (0, g))
def fX4_add_58 (v1 : Int32) (g : z_S) : Option (Unit × z_S) :=
  z_b (fX4_lowBit v1 g) (fun r6 g6 => (z_s (z_wl g6 58 0 ((g.2 58 0) ||| r6)) (fun g10 => (z_b (fX4_highBit v1 g10) (fun r19 g19 => (z_s (z_wl g19 58 1 ((g10.2 58 1) ||| r19)) (fun g23 => (some ((), g23)))))))))
def fX4_add_59 (v1 : Int32) (g : z_S) : Option (Unit × z_S) :=
  z_b (fX4_lowBit v1 g) (fun r6 g6 => (z_s (z_wl g6 59 0 ((g.2 59 0) ||| r6)) (fun g10 => (z_b (fX4_highBit v1 g10) (fun r19 g19 => (z_s (z_wl g19 59 1 ((g10.2 59 1) ||| r19)) (fun g23 => (some ((), g23)))))))))
def fX1_layOut_B16 (k42 : z_S → Option (Unit × z_S)) (rc : Int32 → z_S → Option (Unit × z_S)) (v1 : Int32) (g : z_S) : Option (Unit × z_S) :=
  if 8 ≤ v1 then (k42 g) else (z_g (z_in v1 8) (z_s (z_wl g 56 (v1).toNatClampNeg 0) (fun g28 => (z_g (z_in v1 8) (z_s (z_wl g28 57 (v1).toNatClampNeg 0) (fun g35 => (rc (v1 + 1) g35)))))))
def fX1_layOut_B67 (k128 : Int32 → Int32 → z_S → Option (Unit × z_S)) (rc : (Int32 × Int32 × Int32) → z_S → Option (Unit × z_S)) (a : Int32 × Int32 × Int32) (g : z_S) : Option (Unit × z_S) := match a with
  | (v1, v2, v3) =>
  z_g (z_in v2 16) (if g.1 6 (v2).toNatClampNeg ≤ v3 then (k128 v1 v2 g) else (z_b (fX9_sign_4 v2 v3 g) (fun r86 g86 => (z_g (z_in r86 8) (z_b (fX4_lowBit v1 g86) (fun r100 g100 => (z_g (z_in r86 8) (z_s (z_wl g100 56 (r86).toNatClampNeg ((g86.2 56 (r86).toNatClampNeg) ||| r100)) (fun g104 => (z_g (z_in r86 8) (z_b (fX4_highBit v1 g104) (fun r114 g114 => (z_g (z_in r86 8) (z_s (z_wl g114 57 (r86).toNatClampNeg ((g104.2 57 (r86).toNatClampNeg) ||| r114)) (fun g118 => (rc ((v1 + 1), v2, (v3 + 1)) g118))))))))))))))))
def fX1_layOut_B46 (rc : (Int32 × Int32) → z_S → Option (Unit × z_S)) (a : Int32 × Int32) (g : z_S) : Option (Unit × z_S) := match a with
  | (v1, v2) =>
  if g.1 4 0 ≤ v2 then (some ((), g)) else (z_b (fX4_add_58 v1 g) (fun _ g62 => (z_loop (fX1_layOut_B67 (fun (v1 : Int32) (v2 : Int32) (g : z_S) => z_b (fX4_add_59 (v1 - 1) g) (fun _ g135 => (rc (v1, (v2 + 1)) g135)))) zN (v1, v2, 0) g62)))
def fX1_layOut (g : z_S) : Option (Unit × z_S) :=
  z_b (fX4_empty_58 g) (fun _ g4 => (z_b (fX4_empty_59 g4) (fun _ g11 => (z_loop (fX1_layOut_B16 (fun (g : z_S) => z_loop fX1_layOut_B46 zN (0, 0) g)) zN 0 g11))))
def fX4_empty_60 (g : z_S) : Option (Unit × z_S) :=
  z_s (z_wl g 60 0 0) (fun g2 => (z_s (z_wl g2 60 1 0) (fun g7 => (some ((), g7)))))
def fX1_beAnywhere_B9 (rc : Int32 → z_S → Option (Unit × z_S)) (v1 : Int32) (g : z_S) : Option (Unit × z_S) :=
  if 8 ≤ v1 then (some ((), g)) else (z_g (z_in v1 8) (z_s (z_wl g 60 0 ((g.2 60 0) ||| (g.2 56 (v1).toNatClampNeg))) (fun g30 => (z_g (z_in v1 8) (z_s (z_wl g30 60 1 ((g30.2 60 1) ||| (g30.2 57 (v1).toNatClampNeg))) (fun g48 => (rc (v1 + 1) g48)))))))
def fX1_beAnywhere (g : z_S) : Option (Unit × z_S) :=
  z_b (fX4_empty_60 g) (fun _ g4 => (z_loop fX1_beAnywhere_B9 zN 0 g4))
def fX4_head_60 (g : z_S) : Option (Int32 × z_S) :=
  some (((((((g.2 60 0) ^^^ ((g.2 60 1) * 31)) * (-7046029254386353131)).toUInt64 >>> ((54 : Int32).toInt64.toUInt64 &&& Int64.toUInt64 63)).toInt64).toInt32) &&& 1023, g)
def fX1_keep (g : z_S) : Option (Unit × z_S) :=
  if 2000 ≤ g.1 47 2 then (some ((), g)) else (z_g (z_in (g.1 47 2) 2000) (z_s (z_wl g 48 (g.1 47 2).toNatClampNeg (g.2 60 0)) (fun g25 => (z_g (z_in (g25.1 47 2) 2000) (z_s (z_wl g25 49 (g25.1 47 2).toNatClampNeg (g25.2 60 1)) (fun g41 => (z_b (fX4_head_60 g41) (fun r58 g58 => (z_g (z_in r58 1024) (z_g (z_in (g41.1 47 2) 2000) (z_s (z_wi g58 51 (g41.1 47 2).toNatClampNeg (g58.1 50 (r58).toNatClampNeg)) (fun g62 => (z_b (fX4_head_60 g62) (fun r71 g71 => (z_g (z_in r71 1024) (z_s (z_wi g71 50 (r71).toNatClampNeg (g71.1 47 2)) (fun g78 => (z_s (z_wi g78 47 2 ((g78.1 47 2) + 1)) (fun g86 => (some ((), g86)))))))))))))))))))))
def fX1_begin_B2 (k22 : z_S → Option (Unit × z_S)) (rc : Int32 → z_S → Option (Unit × z_S)) (v1 : Int32) (g : z_S) : Option (Unit × z_S) :=
  if 1024 ≤ v1 then (k22 g) else (z_g (z_in v1 1024) (z_s (z_wi g 50 (v1).toNatClampNeg (-1)) (fun g15 => (rc (v1 + 1) g15))))
def fX1_begin (g : z_S) : Option (Unit × z_S) :=
  z_loop (fX1_begin_B2 (fun (g : z_S) => z_s (z_wi g 47 2 0) (fun g24 => (z_b (fX1_keep g24) (fun _ g28 => (some ((), g28))))))) zN 0 g
def fX4_isLike_60_58 (g : z_S) : Option (Int32 × z_S) :=
  if g.2 60 0 = g.2 58 0 then (if g.2 60 1 = g.2 58 1 then (some (1, g)) else (some (0, g))) else (some (0, g))
def fX1_stepFrom_J118 (v3 : Int64) (v5 : Int64) (v7 : Int32) (s0 : Int64) (s1 : Int64) (g : z_S) : Option (Unit × z_S) :=
  z_s (z_wl g 60 0 (s1 ||| s0)) (fun g119 => (if v7 = 0 then (z_s (z_wl g119 60 1 (((v5 <<< ((1 : Int32).toInt64 &&& 63)) ||| (((v3).toUInt64 >>> ((63 : Int32).toInt64.toUInt64 &&& Int64.toUInt64 63)).toInt64)) ||| 0)) (fun g152 => (some ((), g152)))) else (z_s (z_wl g119 60 1 (((v5 <<< ((1 : Int32).toInt64 &&& 63)) ||| (((v3).toUInt64 >>> ((63 : Int32).toInt64.toUInt64 &&& Int64.toUInt64 63)).toInt64)) ||| (g119.2 58 1))) (fun g152 => (some ((), g152))))))
def fX1_stepFrom_J63 (v3 : Int64) (v5 : Int64) (s0 : Int32) (g : z_S) : Option (Unit × z_S) :=
  if s0 = 0 then (fX1_stepFrom_J118 (v3 &&& ((g.2 59 0) ^^^ (-1))) (v5 &&& ((g.2 59 1) ^^^ (-1))) s0 0 ((v3 &&& ((g.2 59 0) ^^^ (-1))) <<< ((1 : Int32).toInt64 &&& 63)) g) else (fX1_stepFrom_J118 (v3 &&& ((g.2 59 0) ^^^ (-1))) (v5 &&& ((g.2 59 1) ^^^ (-1))) s0 (g.2 58 0) ((v3 &&& ((g.2 59 0) ^^^ (-1))) <<< ((1 : Int32).toInt64 &&& 63)) g)
def fX1_stepFrom (v1 : Int32) (v2 : Int32) (g : z_S) : Option (Unit × z_S) :=
  z_g (z_in v1 2000) (z_g (z_in v2 8) (z_g (z_in v1 2000) (z_g (z_in v2 8) (if ((g.2 48 (v1).toNatClampNeg) &&& (g.2 56 (v2).toNatClampNeg)) &&& (g.2 59 0) = 0 then (if ((g.2 49 (v1).toNatClampNeg) &&& (g.2 57 (v2).toNatClampNeg)) &&& (g.2 59 1) = 0 then (fX1_stepFrom_J63 ((g.2 48 (v1).toNatClampNeg) &&& (g.2 56 (v2).toNatClampNeg)) ((g.2 49 (v1).toNatClampNeg) &&& (g.2 57 (v2).toNatClampNeg)) 0 g) else (fX1_stepFrom_J63 ((g.2 48 (v1).toNatClampNeg) &&& (g.2 56 (v2).toNatClampNeg)) ((g.2 49 (v1).toNatClampNeg) &&& (g.2 57 (v2).toNatClampNeg)) 1 g)) else (fX1_stepFrom_J63 ((g.2 48 (v1).toNatClampNeg) &&& (g.2 56 (v2).toNatClampNeg)) ((g.2 49 (v1).toNatClampNeg) &&& (g.2 57 (v2).toNatClampNeg)) 1 g)))))
def fX1_spell_43_B23 (rc : (Int32 × Int32) → z_S → Option (Unit × z_S)) (a : Int32 × Int32) (g : z_S) : Option (Unit × z_S) := match a with
  | (v4, v5) =>
  if v5 < 0 then (some ((), g)) else (z_g (z_in v4 2000) (z_g (z_in v5 12) (z_s (z_wi g 44 (v5).toNatClampNeg (g.1 53 (v4).toNatClampNeg)) (fun g41 => (z_g (z_in v4 2000) (rc ((g41.1 52 (v4).toNatClampNeg), (v5 + (-1))) g41))))))
def fX1_spell_43 (v1 : Int32) (v2 : Int32) (g : z_S) : Option (Unit × z_S) :=
  z_g (z_in ((g.1 43 2) - 1) 12) (z_s (z_wi g 44 ((g.1 43 2) - 1).toNatClampNeg v2) (fun g11 => (z_loop fX1_spell_43_B23 zN (v1, ((g11.1 43 2) - 2)) g11)))
def fX4_isEmpty_60 (g : z_S) : Option (Int32 × z_S) :=
  if g.2 60 0 = 0 then (if g.2 60 1 = 0 then (some (1, g)) else (some (0, g))) else (some (0, g))
def fX1_find_J63 (rc : (Int32 × Int32) → z_S → Option (Int32 × z_S)) (v1 : Int32) (v2 : Int32) (g : z_S) : Option (Int32 × z_S) :=
  z_g (z_in v1 2000) (rc ((g.1 51 (v1).toNatClampNeg), (v2 + 1)) g)
def fX1_find_B15 (rc : (Int32 × Int32) → z_S → Option (Int32 × z_S)) (a : Int32 × Int32) (g : z_S) : Option (Int32 × z_S) := match a with
  | (v1, v2) =>
  if 2000 ≤ v2 then (some ((-1), g)) else (if v1 = (-1) then (some ((-1), g)) else (z_g (z_in v1 2000) (if g.2 48 (v1).toNatClampNeg = g.2 60 0 then (z_g (z_in v1 2000) (if g.2 49 (v1).toNatClampNeg = g.2 60 1 then (some (v1, g)) else (fX1_find_J63 rc v1 v2 g))) else (fX1_find_J63 rc v1 v2 g))))
def fX1_find (g : z_S) : Option (Int32 × z_S) :=
  z_b (fX4_head_60 g) (fun r8 g8 => (z_g (z_in r8 1024) (z_loop fX1_find_B15 zN ((g8.1 50 (r8).toNatClampNeg), 0) g8)))
def fX1_searchBehind_43_J50 (rc : (Int32 × Int32 × Int32) → z_S → Option (Unit × z_S)) (k57 : Int32 → Int32 → Int32 → z_S → Option (Unit × z_S)) (v1 : Int32) (v2 : Int32) (v4 : Int32) (s0 : Int32) (g : z_S) : Option (Unit × z_S) :=
  if s0 = 0 then (z_b (fX4_isEmpty_60 g) (fun r75 g75 => (if r75 = 0 then (z_b (fX1_find g75) (fun r82 g82 => (if r82 = (-1) then (if g82.1 47 2 < 2000 then (z_g (z_in (g82.1 47 2) 2000) (z_s (z_wi g82 52 (g82.1 47 2).toNatClampNeg v1) (fun g119 => (z_g (z_in (g119.1 47 2) 2000) (z_s (z_wi g119 53 (g119.1 47 2).toNatClampNeg v4) (fun g130 => (z_b (fX1_keep g130) (fun _ g132 => (rc (v1, v2, (v4 + 1)) g132))))))))) else (z_s (z_wi g82 43 2 (-1005)) (fun g106 => (some ((), g106))))) else (rc (v1, v2, (v4 + 1)) g82)))) else (rc (v1, v2, (v4 + 1)) g75)))) else (k57 v1 v2 v4 g)
def fX1_searchBehind_43_B3 (k57 : Int32 → Int32 → Int32 → z_S → Option (Unit × z_S)) (rc : (Int32 × Int32 × Int32) → z_S → Option (Unit × z_S)) (a : Int32 × Int32 × Int32) (g : z_S) : Option (Unit × z_S) := match a with
  | (v1, v2, v4) =>
  if g.1 1 0 ≤ v4 then (some ((), g)) else (z_b (fX1_stepFrom v1 v4 g) (fun _ g19 => (if g19.1 43 0 = 0 then (z_b (fX4_isEmpty_60 g19) (fun r47 g47 => (fX1_searchBehind_43_J50 rc k57 v1 v2 v4 r47 g47))) else (z_b (fX4_isLike_60_58 g19) (fun r37 g37 => (fX1_searchBehind_43_J50 rc k57 v1 v2 v4 r37 g37))))))
def fX1_searchBehind_43 (v1 : Int32) (v2 : Int32) (g : z_S) : Option (Unit × z_S) :=
  z_loop (fX1_searchBehind_43_B3 (fun (v1 : Int32) (v2 : Int32) (v4 : Int32) (g : z_S) => z_s (z_wi g 43 2 v2) (fun g59 => (z_b (fX1_spell_43 v1 v4 g59) (fun _ g67 => (some ((), g67))))))) zN (v1, v2, 0) g
def fX1_search_43_B74 (k103 : Int32 → Int32 → z_S → Option (Unit × z_S)) (rc : (Int32 × Int32 × Int32) → z_S → Option (Unit × z_S)) (a : Int32 × Int32 × Int32) (g : z_S) : Option (Unit × z_S) := match a with
  | (v3, v4, v5) =>
  if v4 ≤ v5 then (k103 v3 v4 g) else (if g.1 43 2 = (-1) then (z_b (fX1_searchBehind_43 v5 v3 g) (fun _ g94 => (rc (v3, v4, (v5 + 1)) g94))) else (k103 v3 v4 g))
def fX1_search_43_B51 (rc : (Int32 × Int32) → z_S → Option (Unit × z_S)) (a : Int32 × Int32) (g : z_S) : Option (Unit × z_S) := match a with
  | (v2, v3) =>
  if 12 < v3 then (some ((), g)) else (if g.1 43 2 = (-1) then (z_loop (fX1_search_43_B74 (fun (v3 : Int32) (v4 : Int32) (g : z_S) => rc (v4, (v3 + 1)) g)) zN (v3, (g.1 47 2), v2) g) else (some ((), g)))
def fX1_search_43_J44 (s0 : Int32) (g : z_S) : Option (Unit × z_S) :=
  z_s (z_wi g 43 2 s0) (fun g44 => (z_loop fX1_search_43_B51 zN (0, 1) g44))
def fX1_search_43 (g : z_S) : Option (Unit × z_S) :=
  z_b (fX1_layOut g) (fun _ g1 => (z_b (fX1_beAnywhere g1) (fun _ g5 => (z_b (fX1_begin g5) (fun _ g9 => (z_s (z_wi g9 43 1 1) (fun g14 => (if g14.1 43 0 = 0 then (fX1_search_43_J44 (-1) g14) else (z_b (fX4_isLike_60_58 g14) (fun r33 g33 => (if r33 = 0 then (fX1_search_43_J44 (-1) g33) else (fX1_search_43_J44 0 g33))))))))))))
def fX10_partOfShortest_43_J29 (v2 : Int32) (g : z_S) : Option (Int32 × z_S) :=
  if g.1 43 2 = (-1005) then (some ((-1005), g)) else (if v2 = (-1) then (some (g.1 43 2, g)) else (if v2 < 0 then (some ((-1), g)) else (if g.1 43 2 ≤ v2 then (some ((-1), g)) else (z_g (z_in v2 12) (some (g.1 44 (v2).toNatClampNeg, g))))))
def fX10_partOfShortest_43 (v2 : Int32) (g : z_S) : Option (Int32 × z_S) :=
  if g.1 4 0 = 0 then (some ((-1003), g)) else (if g.1 43 1 = 0 then (z_b (fX10_states g) (fun _ g22 => (z_b (fX1_search_43 g22) (fun _ g26 => (fX10_partOfShortest_43_J29 v2 g26))))) else (fX10_partOfShortest_43_J29 v2 g))
def fX10_key (v1 : Int32) (g : z_S) : Option (Int32 × z_S) :=
  z_b (fX10_partOfShortest_43 v1 g) (fun r6 g6 => (some (r6, g6)))
def fX1_spell_45_B23 (rc : (Int32 × Int32) → z_S → Option (Unit × z_S)) (a : Int32 × Int32) (g : z_S) : Option (Unit × z_S) := match a with
  | (v4, v5) =>
  if v5 < 0 then (some ((), g)) else (z_g (z_in v4 2000) (z_g (z_in v5 12) (z_s (z_wi g 46 (v5).toNatClampNeg (g.1 53 (v4).toNatClampNeg)) (fun g41 => (z_g (z_in v4 2000) (rc ((g41.1 52 (v4).toNatClampNeg), (v5 + (-1))) g41))))))
def fX1_spell_45 (v1 : Int32) (v2 : Int32) (g : z_S) : Option (Unit × z_S) :=
  z_g (z_in ((g.1 45 2) - 1) 12) (z_s (z_wi g 46 ((g.1 45 2) - 1).toNatClampNeg v2) (fun g11 => (z_loop fX1_spell_45_B23 zN (v1, ((g11.1 45 2) - 2)) g11)))
def fX1_searchBehind_45_J50 (rc : (Int32 × Int32 × Int32) → z_S → Option (Unit × z_S)) (k57 : Int32 → Int32 → Int32 → z_S → Option (Unit × z_S)) (v1 : Int32) (v2 : Int32) (v4 : Int32) (s0 : Int32) (g : z_S) : Option (Unit × z_S) :=
  if s0 = 0 then (z_b (fX4_isEmpty_60 g) (fun r75 g75 => (if r75 = 0 then (z_b (fX1_find g75) (fun r82 g82 => (if r82 = (-1) then (if g82.1 47 2 < 2000 then (z_g (z_in (g82.1 47 2) 2000) (z_s (z_wi g82 52 (g82.1 47 2).toNatClampNeg v1) (fun g119 => (z_g (z_in (g119.1 47 2) 2000) (z_s (z_wi g119 53 (g119.1 47 2).toNatClampNeg v4) (fun g130 => (z_b (fX1_keep g130) (fun _ g132 => (rc (v1, v2, (v4 + 1)) g132))))))))) else (z_s (z_wi g82 45 2 (-1005)) (fun g106 => (some ((), g106))))) else (rc (v1, v2, (v4 + 1)) g82)))) else (rc (v1, v2, (v4 + 1)) g75)))) else (k57 v1 v2 v4 g)
def fX1_searchBehind_45_B3 (k57 : Int32 → Int32 → Int32 → z_S → Option (Unit × z_S)) (rc : (Int32 × Int32 × Int32) → z_S → Option (Unit × z_S)) (a : Int32 × Int32 × Int32) (g : z_S) : Option (Unit × z_S) := match a with
  | (v1, v2, v4) =>
  if g.1 1 0 ≤ v4 then (some ((), g)) else (z_b (fX1_stepFrom v1 v4 g) (fun _ g19 => (if g19.1 45 0 = 0 then (z_b (fX4_isEmpty_60 g19) (fun r47 g47 => (fX1_searchBehind_45_J50 rc k57 v1 v2 v4 r47 g47))) else (z_b (fX4_isLike_60_58 g19) (fun r37 g37 => (fX1_searchBehind_45_J50 rc k57 v1 v2 v4 r37 g37))))))
def fX1_searchBehind_45 (v1 : Int32) (v2 : Int32) (g : z_S) : Option (Unit × z_S) :=
  z_loop (fX1_searchBehind_45_B3 (fun (v1 : Int32) (v2 : Int32) (v4 : Int32) (g : z_S) => z_s (z_wi g 45 2 v2) (fun g59 => (z_b (fX1_spell_45 v1 v4 g59) (fun _ g67 => (some ((), g67))))))) zN (v1, v2, 0) g
def fX1_search_45_B74 (k103 : Int32 → Int32 → z_S → Option (Unit × z_S)) (rc : (Int32 × Int32 × Int32) → z_S → Option (Unit × z_S)) (a : Int32 × Int32 × Int32) (g : z_S) : Option (Unit × z_S) := match a with
  | (v3, v4, v5) =>
  if v4 ≤ v5 then (k103 v3 v4 g) else (if g.1 45 2 = (-1) then (z_b (fX1_searchBehind_45 v5 v3 g) (fun _ g94 => (rc (v3, v4, (v5 + 1)) g94))) else (k103 v3 v4 g))
def fX1_search_45_B51 (rc : (Int32 × Int32) → z_S → Option (Unit × z_S)) (a : Int32 × Int32) (g : z_S) : Option (Unit × z_S) := match a with
  | (v2, v3) =>
  if 12 < v3 then (some ((), g)) else (if g.1 45 2 = (-1) then (z_loop (fX1_search_45_B74 (fun (v3 : Int32) (v4 : Int32) (g : z_S) => rc (v4, (v3 + 1)) g)) zN (v3, (g.1 47 2), v2) g) else (some ((), g)))
def fX1_search_45_J44 (s0 : Int32) (g : z_S) : Option (Unit × z_S) :=
  z_s (z_wi g 45 2 s0) (fun g44 => (z_loop fX1_search_45_B51 zN (0, 1) g44))
def fX1_search_45 (g : z_S) : Option (Unit × z_S) :=
  z_b (fX1_layOut g) (fun _ g1 => (z_b (fX1_beAnywhere g1) (fun _ g5 => (z_b (fX1_begin g5) (fun _ g9 => (z_s (z_wi g9 45 1 1) (fun g14 => (if g14.1 45 0 = 0 then (fX1_search_45_J44 (-1) g14) else (z_b (fX4_isLike_60_58 g14) (fun r33 g33 => (if r33 = 0 then (fX1_search_45_J44 (-1) g33) else (fX1_search_45_J44 0 g33))))))))))))
def fX10_partOfShortest_45_J29 (v2 : Int32) (g : z_S) : Option (Int32 × z_S) :=
  if g.1 45 2 = (-1005) then (some ((-1005), g)) else (if v2 = (-1) then (some (g.1 45 2, g)) else (if v2 < 0 then (some ((-1), g)) else (if g.1 45 2 ≤ v2 then (some ((-1), g)) else (z_g (z_in v2 12) (some (g.1 46 (v2).toNatClampNeg, g))))))
def fX10_partOfShortest_45 (v2 : Int32) (g : z_S) : Option (Int32 × z_S) :=
  if g.1 4 0 = 0 then (some ((-1003), g)) else (if g.1 45 1 = 0 then (z_b (fX10_states g) (fun _ g22 => (z_b (fX1_search_45 g22) (fun _ g26 => (fX10_partOfShortest_45_J29 v2 g26))))) else (fX10_partOfShortest_45_J29 v2 g))
def fX10_strange (v1 : Int32) (g : z_S) : Option (Int32 × z_S) :=
  z_b (fX10_partOfShortest_45 v1 g) (fun r6 g6 => (some (r6, g6)))
def fX10_ways_B37 (k94 : Int32 → Int32 → z_S → Option (Int64 × z_S)) (rc : (Int32 × Int32 × Int32) → z_S → Option (Int64 × z_S)) (a : Int32 × Int32 × Int32) (g : z_S) : Option (Int64 × z_S) := match a with
  | (v1, v2, v3) =>
  if g.1 4 0 ≤ v3 then (k94 v1 v2 g) else (z_g (z_in v3 16) (if v2 - (g.1 6 (v3).toNatClampNeg) < 0 then (rc (v1, v2, (v3 + 1)) g) else (z_g (z_in v2 41) (z_g (z_in (v2 - (g.1 6 (v3).toNatClampNeg)) 41) (z_b (fX10_addCapped (g.2 42 (v2).toNatClampNeg) (g.2 42 (v2 - (g.1 6 (v3).toNatClampNeg)).toNatClampNeg) g) (fun r84 g84 => (z_g (z_in v2 41) (z_s (z_wl g84 42 (v2).toNatClampNeg r84) (fun g87 => (rc (v1, v2, (v3 + 1)) g87))))))))))
def fX10_ways_B23 (k100 : Int32 → z_S → Option (Int64 × z_S)) (rc : (Int32 × Int32) → z_S → Option (Int64 × z_S)) (a : Int32 × Int32) (g : z_S) : Option (Int64 × z_S) := match a with
  | (v1, v2) =>
  if v1 < v2 then (k100 v1 g) else (z_g (z_in v2 41) (z_s (z_wl g 42 (v2).toNatClampNeg 0) (fun g34 => (z_loop (fX10_ways_B37 (fun (v1 : Int32) (v2 : Int32) (g : z_S) => rc (v1, (v2 + 1)) g)) zN (v1, v2, 0) g34))))
def fX10_ways (v1 : Int32) (g : z_S) : Option (Int64 × z_S) :=
  if v1 < 0 then (some ((-1002), g)) else (if v1 ≤ 40 then (z_g (z_in 0 41) (z_s (z_wl g 42 (0 : Int32).toNatClampNeg 1) (fun g20 => (z_loop (fX10_ways_B23 (fun (v1 : Int32) (g : z_S) => z_g (z_in v1 41) (if g.2 42 (v1).toNatClampNeg ≤ 1000000000000000 then (z_g (z_in v1 41) (some (g.2 42 (v1).toNatClampNeg, g))) else (some ((-1005), g))))) zN (v1, 1) g20)))) else (some ((-1002), g)))
def fX4_become_60_58 (g : z_S) : Option (Unit × z_S) :=
  z_s (z_wl g 60 0 (g.2 58 0)) (fun g5 => (z_s (z_wl g5 60 1 (g5.2 58 1)) (fun g13 => (some ((), g13)))))
def fX1_countOn_B7 (k25 : Int32 → z_S → Option (Int32 × z_S)) (rc : (Int32 × Int32) → z_S → Option (Int32 × z_S)) (a : Int32 × Int32) (g : z_S) : Option (Int32 × z_S) := match a with
  | (v1, v2) =>
  if v1 ≤ v2 then (k25 v1 g) else (z_g (z_in v2 2000) (z_s (z_wl g 55 (v2).toNatClampNeg 0) (fun g18 => (rc (v1, (v2 + 1)) g18))))
def fX1_countOn_J117 (rc : (Int32 × Int32 × Int32) → z_S → Option (Int32 × z_S)) (v1 : Int32) (v2 : Int32) (v3 : Int32) (v4 : Int32) (g : z_S) : Option (Int32 × z_S) :=
  z_g (z_in v4 2000) (z_g (z_in v2 2000) (z_g (z_in v4 2000) (z_s (z_wl g 55 (v4).toNatClampNeg ((g.2 55 (v4).toNatClampNeg) + (g.2 54 (v2).toNatClampNeg))) (fun g132 => (rc (v1, v2, (v3 + 1)) g132)))))
def fX1_countOn_B34 (k139 : Int32 → Int32 → z_S → Option (Int32 × z_S)) (rc : (Int32 × Int32 × Int32) → z_S → Option (Int32 × z_S)) (a : Int32 × Int32 × Int32) (g : z_S) : Option (Int32 × z_S) := match a with
  | (v1, v2, v3) =>
  if g.1 1 0 ≤ v3 then (k139 v1 v2 g) else (z_g (z_in v2 2000) (if g.2 54 (v2).toNatClampNeg ≤ 0 then (k139 v1 v2 g) else (z_b (fX1_stepFrom v2 v3 g) (fun _ g59 => (z_b (fX4_isEmpty_60 g59) (fun r66 g66 => (if r66 = 0 then (z_b (fX1_find g66) (fun r76 g76 => (if r76 = (-1) then (if g76.1 47 2 < 2000 then (z_g (z_in (g76.1 47 2) 2000) (z_s (z_wl g76 55 (g76.1 47 2).toNatClampNeg 0) (fun g112 => (z_b (fX1_keep g112) (fun _ g114 => (fX1_countOn_J117 rc v1 v2 v3 (g76.1 47 2) g114)))))) else (some (0, g76))) else (fX1_countOn_J117 rc v1 v2 v3 r76 g76)))) else (rc (v1, v2, (v3 + 1)) g66))))))))
def fX1_countOn_B27 (k145 : z_S → Option (Int32 × z_S)) (rc : (Int32 × Int32) → z_S → Option (Int32 × z_S)) (a : Int32 × Int32) (g : z_S) : Option (Int32 × z_S) := match a with
  | (v1, v2) =>
  if v1 ≤ v2 then (k145 g) else (z_loop (fX1_countOn_B34 (fun (v1 : Int32) (v2 : Int32) (g : z_S) => rc (v1, (v2 + 1)) g)) zN (v1, v2, 0) g)
def fX1_countOn_B147 (rc : Int32 → z_S → Option (Int32 × z_S)) (v2 : Int32) (g : z_S) : Option (Int32 × z_S) :=
  if g.1 47 2 ≤ v2 then (some (1, g)) else (z_g (z_in v2 2000) (z_g (z_in v2 2000) (z_s (z_wl g 54 (v2).toNatClampNeg (g.2 55 (v2).toNatClampNeg)) (fun g166 => (rc (v2 + 1) g166)))))
def fX1_countOn (g : z_S) : Option (Int32 × z_S) :=
  z_loop (fX1_countOn_B7 (fun (v1 : Int32) (g : z_S) => z_loop (fX1_countOn_B27 (fun (g : z_S) => z_loop fX1_countOn_B147 zN 0 g)) zN (v1, 0) g)) zN ((g.1 47 2), 0) g
def fX1_countRows_B28 (k50 : z_S → Option (Int64 × z_S)) (rc : (Int32 × Int32) → z_S → Option (Int64 × z_S)) (a : Int32 × Int32) (g : z_S) : Option (Int64 × z_S) := match a with
  | (v1, v2) =>
  if v1 < v2 then (k50 g) else (z_b (fX1_countOn g) (fun r34 g34 => (if r34 = 0 then (some ((-1005), g34)) else (rc (v1, (v2 + 1)) g34))))
def fX1_countRows_J104 (rc : (Int64 × Int32) → z_S → Option (Int64 × z_S)) (v2 : Int64) (v4 : Int32) (g : z_S) : Option (Int64 × z_S) :=
  z_g (z_in v4 2000) (rc ((v2 + (g.2 54 (v4).toNatClampNeg)), (v4 + 1)) g)
def fX1_countRows_B55 (rc : (Int64 × Int32) → z_S → Option (Int64 × z_S)) (a : Int64 × Int32) (g : z_S) : Option (Int64 × z_S) := match a with
  | (v2, v4) =>
  if g.1 47 2 ≤ v4 then (some (v2, g)) else (z_g (z_in v4 2000) (if (g.2 48 (v4).toNatClampNeg) &&& (g.2 58 0) = 0 then (z_g (z_in v4 2000) (if (g.2 49 (v4).toNatClampNeg) &&& (g.2 58 1) = 0 then (rc (v2, (v4 + 1)) g) else (fX1_countRows_J104 rc v2 v4 g))) else (fX1_countRows_J104 rc v2 v4 g)))
def fX1_countRows (v1 : Int32) (g : z_S) : Option (Int64 × z_S) :=
  z_b (fX1_layOut g) (fun _ g1 => (z_b (fX4_become_60_58 g1) (fun _ g12 => (z_b (fX1_begin g12) (fun _ g16 => (z_g (z_in 0 2000) (z_s (z_wl g16 54 (0 : Int32).toNatClampNeg 1) (fun g25 => (z_loop (fX1_countRows_B28 (fun (g : z_S) => z_loop fX1_countRows_B55 zN (0, 0) g)) zN (v1, 1) g25)))))))))
def fX10_rows (v1 : Int32) (g : z_S) : Option (Int64 × z_S) :=
  if v1 < 0 then (some ((-1002), g)) else (if v1 ≤ 20 then (if g.1 4 0 = 0 then (if v1 = 0 then (some (1, g)) else (some (0, g))) else (z_b (fX10_states g) (fun _ g35 => (z_b (fX1_countRows v1 g35) (fun r39 g39 => (if r39 ≤ 1000000000000000 then (some (r39, g39)) else (some ((-1005), g39)))))))) else (some ((-1002), g)))
def fX10_price (v1 : Int32) (v2 : Int32) (g : z_S) : Option (Int32 × z_S) :=
  if v1 < 0 then (some ((-1002), g)) else (if 3 ≤ v1 then (some ((-1002), g)) else (if v2 < 0 then (some ((-1002), g)) else (if v2 ≤ 99 then (z_g (z_in v1 3) (z_g (z_in v1 3) (z_s (z_wi g 3 (v1).toNatClampNeg v2) (fun g42 => (z_b (fX10_forgetFound g42) (fun _ g44 => (some (g.1 3 (v1).toNatClampNeg, g44)))))))) else (some ((-1002), g)))))
def fX3_mistake (v1 : Int32) (g : z_S) : Option (Int64 × z_S) :=
  z_g (z_in v1 3) (some ((((g.1 3 (v1).toNatClampNeg).toInt64) <<< ((20 : Int32).toInt64 &&& 63)) + 1, g))
def fX3_settleWord_B18 (k83 : Int32 → Int32 → Int32 → z_S → Option (Int32 × z_S)) (rc : (Int32 × Int32 × Int32 × Int32) → z_S → Option (Int32 × z_S)) (a : Int32 × Int32 × Int32 × Int32) (g : z_S) : Option (Int32 × z_S) := match a with
  | (v1, v2, v3, v4) =>
  if 5 ≤ v4 then (k83 v1 v2 v3 g) else (z_b (fX7_mayCome v4 v3 g) (fun r31 g31 => (if r31 = 0 then (rc (v1, v2, v3, (v4 + 1)) g31) else (z_g (z_in v4 5) (z_g (z_in v1 16) (z_g (z_in v2 144) (z_g (z_in v2 144) (z_s (z_wl g31 24 (v2).toNatClampNeg (if (g31.2 25 (v4).toNatClampNeg) + (((g31.1 7 (v1).toNatClampNeg).toInt64) <<< ((20 : Int32).toInt64 &&& 63)) < g31.2 24 (v2).toNatClampNeg then (g31.2 25 (v4).toNatClampNeg) + (((g31.1 7 (v1).toNatClampNeg).toInt64) <<< ((20 : Int32).toInt64 &&& 63)) else g31.2 24 (v2).toNatClampNeg)) (fun g76 => (rc (v1, v2, v3, (v4 + 1)) g76))))))))))
def fX3_settleWord_B99 (k146 : Int32 → Int32 → z_S → Option (Int32 × z_S)) (rc : (Int32 × Int32 × Int32) → z_S → Option (Int32 × z_S)) (a : Int32 × Int32 × Int32) (g : z_S) : Option (Int32 × z_S) := match a with
  | (v3, v4, v5) =>
  if v4 ≤ v5 then (k146 v3 v4 g) else (z_g (z_in (v5 + 1) 144) (z_g (z_in v5 144) (z_b (fX3_mistake 1 g) (fun r132 g132 => (z_g (z_in (v5 + 1) 144) (z_s (z_wl g132 24 (v5 + 1).toNatClampNeg (if (g.2 24 (v5).toNatClampNeg) + r132 < g.2 24 (v5 + 1).toNatClampNeg then (g.2 24 (v5).toNatClampNeg) + r132 else g.2 24 (v5 + 1).toNatClampNeg)) (fun g139 => (rc (v3, v4, (v5 + 1)) g139))))))))
def fX3_settleWord (v1 : Int32) (g : z_S) : Option (Int32 × z_S) :=
  z_g (z_in v1 16) (z_loop (fX3_settleWord_B18 (fun (v1 : Int32) (v2 : Int32) (v3 : Int32) (g : z_S) => z_g (z_in v1 16) (z_loop (fX3_settleWord_B99 (fun (v3 : Int32) (v4 : Int32) (g : z_S) => z_g (z_in v4 144) (z_g (z_in v3 5) (if g.2 24 (v4).toNatClampNeg < g.2 25 (v3).toNatClampNeg then (z_g (z_in v4 144) (z_g (z_in v3 5) (z_s (z_wl g 25 (v3).toNatClampNeg (g.2 24 (v4).toNatClampNeg)) (fun g177 => (some (1, g177)))))) else (some (0, g)))))) zN (v3, (v2 + (g.1 6 (v1).toNatClampNeg)), v2) g))) zN (v1, (v1 * 9), (g.1 8 (v1).toNatClampNeg), 0) g)
def fX3_settle_B18 (k45 : Int32 → Int32 → z_S → Option (Unit × z_S)) (rc : (Int32 × Int32 × Int32) → z_S → Option (Unit × z_S)) (a : Int32 × Int32 × Int32) (g : z_S) : Option (Unit × z_S) := match a with
  | (v1, v2, v3) =>
  if g.1 4 0 ≤ v3 then (k45 v1 v2 g) else (z_b (fX3_settleWord v3 g) (fun r31 g31 => (if r31 = 0 then (rc (v1, v2, (v3 + 1)) g31) else (rc (1, v2, (v3 + 1)) g31))))
def fX3_settle_B4 (rc : (Int32 × Int32) → z_S → Option (Unit × z_S)) (a : Int32 × Int32) (g : z_S) : Option (Unit × z_S) := match a with
  | (v1, v2) =>
  if 10 ≤ v2 then (some ((), g)) else (if v1 = 0 then (some ((), g)) else (z_loop (fX3_settle_B18 (fun (v1 : Int32) (v2 : Int32) (g : z_S) => rc (v1, (v2 + 1)) g)) zN (0, v2, 0) g))
def fX3_settle (g : z_S) : Option (Unit × z_S) :=
  z_loop fX3_settle_B4 zN (1, 0) g
def fX3_takeLetter_B2 (k27 : Int32 → z_S → Option (Unit × z_S)) (rc : (Int32 × Int32) → z_S → Option (Unit × z_S)) (a : Int32 × Int32) (g : z_S) : Option (Unit × z_S) := match a with
  | (v1, v2) =>
  if 5 ≤ v2 then (k27 v1 g) else (z_g (z_in v2 5) (z_b (fX3_mistake 2 g) (fun r16 g16 => (z_g (z_in v2 5) (z_s (z_wl g16 25 (v2).toNatClampNeg ((g.2 25 (v2).toNatClampNeg) + r16)) (fun g20 => (rc (v1, (v2 + 1)) g20)))))))
def fX3_takeLetter_J132 (rc : (Int32 × Int32 × Int32 × Int32 × Int32) → z_S → Option (Unit × z_S)) (v1 : Int32) (v2 : Int32) (v3 : Int32) (v4 : Int32) (v5 : Int32) (v6 : Int64) (s0 : Int64) (g : z_S) : Option (Unit × z_S) :=
  z_g (z_in (v3 + v5) 144) (z_s (z_wl g 24 (v3 + v5).toNatClampNeg (if s0 < v6 then s0 else v6)) (fun g149 => (rc (v1, v2, v3, v4, (v5 + (-1))) g149)))
def fX3_takeLetter_J101 (rc : (Int32 × Int32 × Int32 × Int32 × Int32) → z_S → Option (Unit × z_S)) (v1 : Int32) (v2 : Int32) (v3 : Int32) (v4 : Int32) (v5 : Int32) (s0 : Int64) (s1 : Int64) (g : z_S) : Option (Unit × z_S) :=
  if v4 ≤ v5 then (fX3_takeLetter_J132 rc v1 v2 v3 v4 v5 (s1 + s0) 1152921504606846976 g) else (z_g (z_in (v3 + v5) 144) (z_b (fX3_mistake 2 g) (fun r122 g122 => (fX3_takeLetter_J132 rc v1 v2 v3 v4 v5 (s1 + s0) ((g.2 24 (v3 + v5).toNatClampNeg) + r122) g122))))
def fX3_takeLetter_B60 (k156 : Int32 → Int32 → Int32 → z_S → Option (Unit × z_S)) (rc : (Int32 × Int32 × Int32 × Int32 × Int32) → z_S → Option (Unit × z_S)) (a : Int32 × Int32 × Int32 × Int32 × Int32) (g : z_S) : Option (Unit × z_S) := match a with
  | (v1, v2, v3, v4, v5) =>
  if v5 ≤ 0 then (k156 v1 v2 v3 g) else (z_g (z_in ((v3 + v5) - 1) 144) (z_b (fX9_sign_4 v2 (v5 - 1) g) (fun r85 g85 => (if r85 = v1 then (fX3_takeLetter_J101 rc v1 v2 v3 v4 v5 0 (g.2 24 ((v3 + v5) - 1).toNatClampNeg) g85) else (z_b (fX3_mistake 0 g85) (fun r98 g98 => (fX3_takeLetter_J101 rc v1 v2 v3 v4 v5 r98 (g.2 24 ((v3 + v5) - 1).toNatClampNeg) g98)))))))
def fX3_takeLetter_B29 (rc : (Int32 × Int32) → z_S → Option (Unit × z_S)) (a : Int32 × Int32) (g : z_S) : Option (Unit × z_S) := match a with
  | (v1, v2) =>
  if g.1 4 0 ≤ v2 then (some ((), g)) else (z_g (z_in v2 16) (z_loop (fX3_takeLetter_B60 (fun (v1 : Int32) (v2 : Int32) (v3 : Int32) (g : z_S) => z_g (z_in v3 144) (z_s (z_wl g 24 (v3).toNatClampNeg 1152921504606846976) (fun g164 => (rc (v1, (v2 + 1)) g164))))) zN (v1, v2, (v2 * 9), (g.1 6 (v2).toNatClampNeg), (g.1 6 (v2).toNatClampNeg)) g))
def fX3_takeLetter (v1 : Int32) (g : z_S) : Option (Unit × z_S) :=
  z_loop (fX3_takeLetter_B2 (fun (v1 : Int32) (g : z_S) => z_loop fX3_takeLetter_B29 zN (v1, 0) g)) zN (v1, 0) g
def fX3_leastInAll_B2 (k31 : z_S → Option (Int64 × z_S)) (rc : Int32 → z_S → Option (Int64 × z_S)) (v1 : Int32) (g : z_S) : Option (Int64 × z_S) :=
  if (g.1 4 0) * 9 ≤ v1 then (k31 g) else (z_g (z_in v1 144) (z_s (z_wl g 24 (v1).toNatClampNeg 1152921504606846976) (fun g24 => (rc (v1 + 1) g24))))
def fX3_leastInAll_B33 (k62 : z_S → Option (Int64 × z_S)) (rc : Int32 → z_S → Option (Int64 × z_S)) (v1 : Int32) (g : z_S) : Option (Int64 × z_S) :=
  if 5 ≤ v1 then (k62 g) else (if v1 = 4 then (z_g (z_in v1 5) (z_s (z_wl g 25 (v1).toNatClampNeg 0) (fun g55 => (rc (v1 + 1) g55)))) else (z_g (z_in v1 5) (z_s (z_wl g 25 (v1).toNatClampNeg 1152921504606846976) (fun g55 => (rc (v1 + 1) g55)))))
def fX3_leastInAll_B68 (k102 : z_S → Option (Int64 × z_S)) (rc : Int32 → z_S → Option (Int64 × z_S)) (v1 : Int32) (g : z_S) : Option (Int64 × z_S) :=
  if g.1 11 1 ≤ v1 then (k102 g) else (z_g (z_in v1 48) (z_b (fX3_takeLetter (g.1 12 (v1).toNatClampNeg) g) (fun _ g89 => (z_b (fX3_settle g89) (fun _ g93 => (rc (v1 + 1) g93))))))
def fX3_leastInAll_B108 (rc : (Int64 × Int32) → z_S → Option (Int64 × z_S)) (a : Int64 × Int32) (g : z_S) : Option (Int64 × z_S) := match a with
  | (v1, v3) =>
  if 5 ≤ v3 then (some (v1, g)) else (z_g (z_in v3 5) (rc ((if g.2 25 (v3).toNatClampNeg < v1 then g.2 25 (v3).toNatClampNeg else v1), (v3 + 1)) g))
def fX3_leastInAll (g : z_S) : Option (Int64 × z_S) :=
  z_loop (fX3_leastInAll_B2 (fun (g : z_S) => z_loop (fX3_leastInAll_B33 (fun (g : z_S) => z_b (fX3_settle g) (fun _ g63 => (z_loop (fX3_leastInAll_B68 (fun (g : z_S) => z_loop fX3_leastInAll_B108 zN (1152921504606846976, 0) g)) zN 0 g63)))) zN 0 g)) zN 0 g
def fX10_patched (v1 : Int32) (g : z_S) : Option (Int32 × z_S) :=
  if v1 < 0 then (some ((-1002), g)) else (if v1 ≤ 1 then (z_b (fX3_leastInAll g) (fun r17 g17 => (if v1 = 0 then (some ((r17 >>> ((20 : Int32).toInt64 &&& 63)).toInt32, g17)) else (some ((r17 &&& 1048575).toInt32, g17))))) else (some ((-1002), g)))
def fX6_put_h (v0 : Nat) (v1 : Int32) (g : z_S) : Option (Unit × z_S) :=
  z_g (Nat.blt v0 4) (z_g (Nat.blt v0 4) (z_g (Nat.blt v0 4) (if 24 ≤ g.1 (34 + 2 * v0) 1 then (some ((), g)) else (z_g (Nat.blt v0 4) (z_g (Nat.blt v0 4) (z_g (Nat.blt v0 4) (z_g (z_in (g.1 (34 + 2 * v0) 1) 24) (z_s (z_wi g (35 + 2 * v0) (g.1 (34 + 2 * v0) 1).toNatClampNeg v1) (fun g21 => (z_g (Nat.blt v0 4) (z_g (Nat.blt v0 4) (z_s (z_wi g21 (34 + 2 * v0) 1 ((g21.1 (34 + 2 * v0) 1) + 1)) (fun g29 => (some ((), g29)))))))))))))))
def fX2_take_11_B26 (k50 : z_S → Option (Unit × z_S)) (rc : (Nat × Int32) → z_S → Option (Unit × z_S)) (a : Nat × Int32) (g : z_S) : Option (Unit × z_S) := match a with
  | (v2, v3) =>
  if g.1 11 1 ≤ v3 then (k50 g) else (z_g (z_in v3 48) (z_g (Nat.blt v2 4) (z_b (fX6_put_h v2 (g.1 12 (v3).toNatClampNeg) g) (fun _ g41 => (rc (v2, (v3 + 1)) g41)))))
def fX2_take_11 (g : z_S) : Option (Unit × z_S) :=
  if g.1 26 0 < 4 then (z_g (z_in (g.1 26 0) 4) (z_g (Nat.blt (g.1 26 0).toNatClampNeg 4) (z_s (z_wi g (34 + 2 * (g.1 26 0).toNatClampNeg) 1 0) (fun g21 => (z_loop (fX2_take_11_B26 (fun (g : z_S) => z_s (z_wi g 26 0 ((g.1 26 0) + 1)) (fun g57 => (some ((), g57))))) zN (((g.1 26 0).toNatClampNeg), 0) g21))))) else (some ((), g))
def fX10_line (g : z_S) : Option (Int32 × z_S) :=
  if g.1 11 1 < 1 then (some ((-1002), g)) else (if g.1 11 1 ≤ 24 then (if g.1 26 0 < 4 then (z_b (fX2_take_11 g) (fun _ g50 => (z_s (z_wi g50 11 1 0) (fun g58 => (z_b (fX10_forgetFound g58) (fun _ g62 => (some (g62.1 26 0, g62)))))))) else (some ((-1004), g))) else (some ((-1002), g)))
def fX10_drop (g : z_S) : Option (Int32 × z_S) :=
  z_s (z_wi g 26 0 0) (fun g13 => (z_b (fX10_forgetFound g13) (fun _ g17 => (some (g.1 26 0, g17)))))
def fX9_standsAt_4_h_B24 (rc : (Int32 × Nat × Int32 × Int32) → z_S → Option (Int32 × z_S)) (a : Int32 × Nat × Int32 × Int32) (g : z_S) : Option (Int32 × z_S) := match a with
  | (v1, v2, v3, v4) =>
  z_g (z_in v1 16) (if g.1 6 (v1).toNatClampNeg ≤ v4 then (some (1, g)) else (z_g (Nat.blt v2 4) (z_g (Nat.blt v2 4) (z_g (z_in (v3 + v4) 24) (z_b (fX9_sign_4 v1 v4 g) (fun r48 g48 => (if g.1 (35 + 2 * v2) (v3 + v4).toNatClampNeg = r48 then (rc (v1, v2, v3, (v4 + 1)) g48) else (some (0, g48)))))))))
def fX9_standsAt_4_h (v1 : Int32) (v2 : Nat) (v3 : Int32) (g : z_S) : Option (Int32 × z_S) :=
  if v3 < 0 then (some (0, g)) else (z_g (z_in v1 16) (z_g (Nat.blt v2 4) (if v3 + (g.1 6 (v1).toNatClampNeg) ≤ g.1 (34 + 2 * v2) 1 then (z_loop fX9_standsAt_4_h_B24 zN (v1, v2, v3, 0) g) else (some (0, g)))))
def fX9_standingAt_4_h_B5 (rc : (Nat × Int32 × Int32 × Int32) → z_S → Option (Int32 × z_S)) (a : Nat × Int32 × Int32 × Int32) (g : z_S) : Option (Int32 × z_S) := match a with
  | (v1, v2, v3, v4) =>
  if g.1 4 0 ≤ v4 then (some (v3, g)) else (z_g (Nat.blt v1 4) (z_b (fX9_standsAt_4_h v4 v1 v2 g) (fun r19 g19 => (if r19 = 0 then (rc (v1, v2, v3, (v4 + 1)) g19) else (rc (v1, v2, (v3 ||| (1 <<< (v4 &&& 31))), (v4 + 1)) g19)))))
def fX9_standingAt_4_h (v1 : Nat) (v2 : Int32) (g : z_S) : Option (Int32 × z_S) :=
  z_loop fX9_standingAt_4_h_B5 zN (v1, v2, 0, 0) g
def fX2_match_B12 (k56 : Int32 → z_S → Option (Unit × z_S)) (rc : (Int32 × Int32) → z_S → Option (Unit × z_S)) (a : Int32 × Int32) (g : z_S) : Option (Unit × z_S) := match a with
  | (v1, v2) =>
  z_g (z_in v1 4) (z_g (Nat.blt (v1).toNatClampNeg 4) (if g.1 (34 + 2 * (v1).toNatClampNeg) 1 ≤ v2 then (k56 v1 g) else (z_g (z_in v1 4) (z_g (Nat.blt (v1).toNatClampNeg 4) (z_b (fX9_standingAt_4_h ((v1).toNatClampNeg) v2 g) (fun r46 g46 => (z_g (z_in ((v1 * 24) + v2) 96) (z_s (z_wi g46 29 ((v1 * 24) + v2).toNatClampNeg r46) (fun g49 => (rc (v1, (v2 + 1)) g49))))))))))
def fX2_match_B2 (rc : Int32 → z_S → Option (Unit × z_S)) (v1 : Int32) (g : z_S) : Option (Unit × z_S) :=
  if g.1 26 0 ≤ v1 then (some ((), g)) else (z_loop (fX2_match_B12 (fun (v1 : Int32) (g : z_S) => rc (v1 + 1) g)) zN (v1, 0) g)
def fX2_match (g : z_S) : Option (Unit × z_S) :=
  z_loop fX2_match_B2 zN 0 g
def fX2_leastWith (v1 : Int32) (v2 : Int32) (g : z_S) : Option (Int32 × z_S) :=
  z_g (z_in v2 16) (z_g (z_in v2 16) (z_g (z_in v2 16) (z_g (z_in (((v1 + (g.1 6 (v2).toNatClampNeg)) * 5) + (g.1 8 (v2).toNatClampNeg)) 125) (some ((g.1 7 (v2).toNatClampNeg) + (g.1 31 (((v1 + (g.1 6 (v2).toNatClampNeg)) * 5) + (g.1 8 (v2).toNatClampNeg)).toNatClampNeg), g)))))
def fX2_measureFrom_B2 (k21 : Int32 → Int32 → z_S → Option (Unit × z_S)) (rc : (Int32 × Int32 × Int32) → z_S → Option (Unit × z_S)) (a : Int32 × Int32 × Int32) (g : z_S) : Option (Unit × z_S) := match a with
  | (v1, v2, v3) =>
  if 4 ≤ v3 then (k21 v1 v2 g) else (z_g (z_in v3 4) (z_s (z_wi g 32 (v3).toNatClampNeg 1000000000) (fun g14 => (rc (v1, v2, (v3 + 1)) g14))))
def fX2_measureFrom_B36 (k110 : Int32 → Int32 → z_S → Option (Unit × z_S)) (rc : (Int32 × Int32 × Int32 × Int32) → z_S → Option (Unit × z_S)) (a : Int32 × Int32 × Int32 × Int32) (g : z_S) : Option (Unit × z_S) := match a with
  | (v1, v2, v3, v4) =>
  if g.1 4 0 ≤ v4 then (k110 v1 v2 g) else (if v3 >>> (v4 &&& 31) = 0 then (k110 v1 v2 g) else (if (v3 >>> (v4 &&& 31)) &&& 1 = 0 then (rc (v1, v2, v3, (v4 + 1)) g) else (z_g (z_in v4 16) (z_g (z_in v4 16) (z_g (z_in (g.1 8 (v4).toNatClampNeg) 4) (z_b (fX2_leastWith v2 v4 g) (fun r97 g97 => (z_g (z_in (g.1 8 (v4).toNatClampNeg) 4) (z_s (z_wi g97 32 (g.1 8 (v4).toNatClampNeg).toNatClampNeg (if r97 < g.1 32 (g.1 8 (v4).toNatClampNeg).toNatClampNeg then r97 else g.1 32 (g.1 8 (v4).toNatClampNeg).toNatClampNeg)) (fun g103 => (rc (v1, v2, v3, (v4 + 1)) g103)))))))))))
def fX2_measureFrom_B205 (k252 : Int32 → Int32 → Int32 → z_S → Option (Unit × z_S)) (rc : (Int32 × Int32 × Int32 × Int32) → z_S → Option (Unit × z_S)) (a : Int32 × Int32 × Int32 × Int32) (g : z_S) : Option (Unit × z_S) := match a with
  | (v2, v4, v5, v6) =>
  if 4 ≤ v6 then (k252 v2 v4 v5 g) else (z_g (z_in v6 4) (if v5 ≤ g.1 32 (v6).toNatClampNeg then (rc (v2, v4, v5, (v6 + 1)) g) else (z_b (fX7_mayCome v4 v6 g) (fun r231 g231 => (if r231 = 0 then (rc (v2, v4, v5, (v6 + 1)) g231) else (z_g (z_in v6 4) (rc (v2, v4, (g231.1 32 (v6).toNatClampNeg), (v6 + 1)) g231)))))))
def fX2_measureFrom_B171 (rc : (Int32 × Int32) → z_S → Option (Unit × z_S)) (a : Int32 × Int32) (g : z_S) : Option (Unit × z_S) := match a with
  | (v2, v4) =>
  if 5 ≤ v4 then (some ((), g)) else (z_g (z_in 2 3) (z_g (z_in (((v2 + 1) * 5) + v4) 125) (z_loop (fX2_measureFrom_B205 (fun (v2 : Int32) (v4 : Int32) (v5 : Int32) (g : z_S) => z_g (z_in ((v2 * 5) + v4) 125) (z_s (z_wi g 31 ((v2 * 5) + v4).toNatClampNeg v5) (fun g264 => (rc (v2, (v4 + 1)) g264))))) zN (v2, v4, ((g.1 3 (2 : Int32).toNatClampNeg) + (g.1 31 (((v2 + 1) * 5) + v4).toNatClampNeg)), 0) g)))
def fX2_measureFrom (v1 : Int32) (v2 : Int32) (g : z_S) : Option (Unit × z_S) :=
  z_loop (fX2_measureFrom_B2 (fun (v1 : Int32) (v2 : Int32) (g : z_S) => z_g (z_in ((v1 * 24) + v2) 96) (z_loop (fX2_measureFrom_B36 (fun (v1 : Int32) (v2 : Int32) (g : z_S) => if g.1 26 15 = 0 then (z_loop fX2_measureFrom_B171 zN (v2, 0) g) else (z_g (z_in ((v1 * 24) + v2) 96) (if g.1 30 ((v1 * 24) + v2).toNatClampNeg = g.1 26 15 then (z_g (z_in 0 4) (z_g (z_in ((v2 + (g.1 26 14)) * 5) 125) (z_g (z_in 0 4) (z_s (z_wi g 32 (0 : Int32).toNatClampNeg (if (g.1 26 3) + (g.1 31 ((v2 + (g.1 26 14)) * 5).toNatClampNeg) < g.1 32 (0 : Int32).toNatClampNeg then (g.1 26 3) + (g.1 31 ((v2 + (g.1 26 14)) * 5).toNatClampNeg) else g.1 32 (0 : Int32).toNatClampNeg)) (fun g167 => (z_loop fX2_measureFrom_B171 zN (v2, 0) g167)))))) else (z_loop fX2_measureFrom_B171 zN (v2, 0) g))))) zN (v1, v2, (g.1 29 ((v1 * 24) + v2).toNatClampNeg), 0) g))) zN (v1, v2, 0) g
def fX2_measure_B12 (k34 : Int32 → Int32 → z_S → Option (Int32 × z_S)) (rc : (Int32 × Int32 × Int32) → z_S → Option (Int32 × z_S)) (a : Int32 × Int32 × Int32) (g : z_S) : Option (Int32 × z_S) := match a with
  | (v1, v2, v3) =>
  if 5 ≤ v3 then (k34 v1 v2 g) else (z_g (z_in ((v2 * 5) + v3) 125) (z_s (z_wi g 31 ((v2 * 5) + v3).toNatClampNeg 0) (fun g27 => (rc (v1, v2, (v3 + 1)) g27))))
def fX2_measure_B38 (rc : (Int32 × Int32) → z_S → Option (Int32 × z_S)) (a : Int32 × Int32) (g : z_S) : Option (Int32 × z_S) := match a with
  | (v1, v3) =>
  if v3 < 0 then (z_g (z_in 4 125) (some (g.1 31 (4 : Int32).toNatClampNeg, g))) else (z_b (fX2_measureFrom v1 v3 g) (fun _ g45 => (rc (v1, (v3 + (-1))) g45)))
def fX2_measure (v1 : Int32) (g : z_S) : Option (Int32 × z_S) :=
  z_g (z_in v1 4) (z_g (Nat.blt (v1).toNatClampNeg 4) (z_loop (fX2_measure_B12 (fun (v1 : Int32) (v2 : Int32) (g : z_S) => z_loop fX2_measure_B38 zN (v1, (v2 - 1)) g)) zN (v1, (g.1 (34 + 2 * (v1).toNatClampNeg) 1), 0) g))
def fX2_sumOfLeast_B4 (rc : (Int32 × Int32) → z_S → Option (Int32 × z_S)) (a : Int32 × Int32) (g : z_S) : Option (Int32 × z_S) := match a with
  | (v1, v2) =>
  if g.1 26 0 ≤ v2 then (some (v1, g)) else (z_b (fX2_measure v2 g) (fun r15 g15 => (rc ((v1 + r15), (v2 + 1)) g15)))
def fX2_sumOfLeast (g : z_S) : Option (Int32 × z_S) :=
  z_loop fX2_sumOfLeast_B4 zN (0, 0) g
def fX10_totals (g : z_S) : Option (Int32 × z_S) :=
  z_b (fX2_match g) (fun _ g4 => (z_b (fX2_sumOfLeast g4) (fun r11 g11 => (some (r11, g11)))))
def fX2_firstWordOfLeast_B28 (rc : (Int32 × Int32 × Int32 × Int32 × Int32) → z_S → Option (Int32 × z_S)) (a : Int32 × Int32 × Int32 × Int32 × Int32) (g : z_S) : Option (Int32 × z_S) := match a with
  | (v2, v3, v4, v5, v6) =>
  if g.1 4 0 ≤ v6 then (some ((-1), g)) else (if (v4 >>> (v6 &&& 31)) &&& 1 = 0 then (rc (v2, v3, v4, v5, (v6 + 1)) g) else (z_g (z_in v6 16) (z_b (fX7_mayCome v3 (g.1 8 (v6).toNatClampNeg) g) (fun r65 g65 => (if r65 = 0 then (rc (v2, v3, v4, v5, (v6 + 1)) g65) else (z_b (fX2_leastWith v2 v6 g65) (fun r75 g75 => (if r75 = v5 then (some (v6, g75)) else (rc (v2, v3, v4, v5, (v6 + 1)) g75)))))))))
def fX2_firstWordOfLeast (v1 : Int32) (v2 : Int32) (v3 : Int32) (g : z_S) : Option (Int32 × z_S) :=
  z_g (z_in ((v1 * 24) + v2) 96) (z_g (z_in ((v2 * 5) + v3) 125) (z_loop fX2_firstWordOfLeast_B28 zN (v2, v3, (g.1 29 ((v1 * 24) + v2).toNatClampNeg), (g.1 31 ((v2 * 5) + v3).toNatClampNeg), 0) g))
def fX2_countUsesOf_B18 (rc : (Int32 × Int32 × Int32 × Int32 × Int32) → z_S → Option (Unit × z_S)) (a : Int32 × Int32 × Int32 × Int32 × Int32) (g : z_S) : Option (Unit × z_S) := match a with
  | (v1, v2, v3, v4, v5) =>
  if 24 ≤ v5 then (some ((), g)) else (if v2 ≤ v4 then (some ((), g)) else (z_b (fX2_firstWordOfLeast v1 v4 v3 g) (fun r36 g36 => (if r36 = (-1) then (z_s (z_wi g36 26 2 ((g36.1 26 2) + 1)) (fun g54 => (rc (v1, v2, v3, (v4 + 1), (v5 + 1)) g54))) else (z_g (z_in r36 16) (z_g (z_in r36 16) (z_s (z_wi g36 27 (r36).toNatClampNeg ((g36.1 27 (r36).toNatClampNeg) + 1)) (fun g73 => (z_g (z_in r36 16) (z_g (z_in r36 16) (rc (v1, v2, (g73.1 8 (r36).toNatClampNeg), (v4 + (g73.1 6 (r36).toNatClampNeg)), (v5 + 1)) g73)))))))))))
def fX2_countUsesOf (v1 : Int32) (g : z_S) : Option (Unit × z_S) :=
  z_g (z_in v1 4) (z_g (Nat.blt (v1).toNatClampNeg 4) (z_loop fX2_countUsesOf_B18 zN (v1, (g.1 (34 + 2 * (v1).toNatClampNeg) 1), 4, 0, 0) g))
def fX2_countUses_B7 (k26 : z_S → Option (Unit × z_S)) (rc : Int32 → z_S → Option (Unit × z_S)) (v1 : Int32) (g : z_S) : Option (Unit × z_S) :=
  if 16 ≤ v1 then (k26 g) else (z_g (z_in v1 16) (z_s (z_wi g 27 (v1).toNatClampNeg 0) (fun g19 => (rc (v1 + 1) g19))))
def fX2_countUses_B28 (rc : Int32 → z_S → Option (Unit × z_S)) (v1 : Int32) (g : z_S) : Option (Unit × z_S) :=
  if g.1 26 0 ≤ v1 then (some ((), g)) else (z_b (fX2_measure v1 g) (fun r38 g38 => (z_b (fX2_countUsesOf v1 g38) (fun _ g44 => (rc (v1 + 1) g44)))))
def fX2_countUses (g : z_S) : Option (Unit × z_S) :=
  z_s (z_wi g 26 2 0) (fun g2 => (z_loop (fX2_countUses_B7 (fun (g : z_S) => z_loop fX2_countUses_B28 zN 0 g)) zN 0 g2))
def fX10_uses_J20 (v1 : Int32) (g : z_S) : Option (Int32 × z_S) :=
  z_b (fX2_match g) (fun _ g24 => (z_b (fX2_countUses g24) (fun _ g31 => (if v1 = (-1) then (some (g31.1 26 2, g31)) else (z_g (z_in v1 16) (some (g31.1 27 (v1).toNatClampNeg, g31)))))))
def fX10_uses (v1 : Int32) (g : z_S) : Option (Int32 × z_S) :=
  if v1 = (-1) then (fX10_uses_J20 v1 g) else (z_b (fX9_has_4 v1 g) (fun r10 g10 => (if r10 = 0 then (some ((-1001), g10)) else (fX10_uses_J20 v1 g10))))
def fX2_rankCosts_B20 (k57 : Int32 → Int32 → Int32 → z_S → Option (Int32 × z_S)) (rc : (Int32 × Int32 × Int32 × Int32) → z_S → Option (Int32 × z_S)) (a : Int32 × Int32 × Int32 × Int32) (g : z_S) : Option (Int32 × z_S) := match a with
  | (v1, v2, v3, v4) =>
  if g.1 4 0 ≤ v4 then (k57 v1 v2 v3 g) else (z_g (z_in v4 16) (z_g (z_in v2 16) (if g.1 27 (v4).toNatClampNeg ≤ g.1 27 (v2).toNatClampNeg then (rc (v1, v2, v3, (v4 + 1)) g) else (rc (v1, v2, (v3 + 1), (v4 + 1)) g))))
def fX2_rankCosts_B4 (rc : (Int32 × Int32) → z_S → Option (Int32 × z_S)) (a : Int32 × Int32) (g : z_S) : Option (Int32 × z_S) := match a with
  | (v1, v2) =>
  if g.1 4 0 ≤ v2 then (z_g (v1 &&& 1 == v1) (some (v1, g))) else (z_loop (fX2_rankCosts_B20 (fun (v1 : Int32) (v2 : Int32) (v3 : Int32) (g : z_S) => z_g (z_in v2 16) (if g.1 7 (v2).toNatClampNeg = v3 then (rc (v1, (v2 + 1)) g) else (z_g (z_in v2 16) (z_s (z_wi g 7 (v2).toNatClampNeg v3) (fun g79 => (rc (1, (v2 + 1)) g79))))))) zN (v1, v2, 1, 0) g)
def fX2_rankCosts (g : z_S) : Option (Int32 × z_S) :=
  z_loop fX2_rankCosts_B4 zN (0, 0) g
def fX10_learn_B28 (rc : (Int32 × Int32) → z_S → Option (Int32 × z_S)) (a : Int32 × Int32) (g : z_S) : Option (Int32 × z_S) := match a with
  | (v1, v2) =>
  if v1 ≤ v2 then (some ((-1), g)) else (z_b (fX2_countUses g) (fun _ g37 => (z_b (fX2_rankCosts g37) (fun r44 g44 => (if r44 = 0 then (some (v2, g44)) else (rc (v1, (v2 + 1)) g44))))))
def fX10_learn (v1 : Int32) (g : z_S) : Option (Int32 × z_S) :=
  if v1 < 1 then (some ((-1002), g)) else (if v1 ≤ 20 then (z_b (fX10_forgetFound g) (fun _ g16 => (z_b (fX2_match g16) (fun _ g23 => (z_loop fX10_learn_B28 zN (v1, 0) g23))))) else (some ((-1002), g)))
def fX10_codeOf_hc_B5 (rc : (Nat × Int32 × Int32 × Int32 × Int32) → z_S → Option (Int32 × z_S)) (a : Nat × Int32 × Int32 × Int32 × Int32) (g : z_S) : Option (Int32 × z_S) := match a with
  | (v0, v1, v2, v3, v4) =>
  if 5 ≤ v4 then (some (v3, g)) else (if v2 ≤ v4 then (rc (v0, v1, v2, ((v3 * 9) + 0), (v4 + 1)) g) else (z_g (Nat.blt v0 4) (z_g (z_in (v1 + v4) 24) (rc (v0, v1, v2, ((v3 * 9) + ((g.1 (35 + 2 * v0) (v1 + v4).toNatClampNeg) + 1)), (v4 + 1)) g))))
def fX10_codeOf_hc (v0 : Nat) (v1 : Int32) (v2 : Int32) (g : z_S) : Option (Int32 × z_S) :=
  z_loop fX10_codeOf_hc_B5 zN (v0, v1, v2, 0, 0) g
def fX2_encode_J41 (rc : (Int32 × Int32) → z_S → Option (Unit × z_S)) (v1 : Int32) (v2 : Int32) (s0 : Int32) (g : z_S) : Option (Unit × z_S) :=
  if s0 = 0 then (z_g (z_in ((v1 * 24) + v2) 96) (z_s (z_wi g 30 ((v1 * 24) + v2).toNatClampNeg 0) (fun g77 => (rc (v1, (v2 + 1)) g77)))) else (z_g (z_in v1 4) (z_g (Nat.blt (v1).toNatClampNeg 4) (z_g (Nat.blt (v1).toNatClampNeg 4) (z_b (fX10_codeOf_hc ((v1).toNatClampNeg) v2 (g.1 26 14) g) (fun r70 g70 => (z_g (z_in ((v1 * 24) + v2) 96) (z_s (z_wi g70 30 ((v1 * 24) + v2).toNatClampNeg r70) (fun g77 => (rc (v1, (v2 + 1)) g77)))))))))
def fX2_encode_B12 (k84 : Int32 → z_S → Option (Unit × z_S)) (rc : (Int32 × Int32) → z_S → Option (Unit × z_S)) (a : Int32 × Int32) (g : z_S) : Option (Unit × z_S) := match a with
  | (v1, v2) =>
  if 24 ≤ v2 then (k84 v1 g) else (z_g (z_in v1 4) (z_g (Nat.blt (v1).toNatClampNeg 4) (if g.1 (34 + 2 * (v1).toNatClampNeg) 1 < v2 + (g.1 26 14) then (fX2_encode_J41 rc v1 v2 0 g) else (fX2_encode_J41 rc v1 v2 1 g))))
def fX2_encode_B2 (rc : Int32 → z_S → Option (Unit × z_S)) (v1 : Int32) (g : z_S) : Option (Unit × z_S) :=
  if g.1 26 0 ≤ v1 then (some ((), g)) else (z_loop (fX2_encode_B12 (fun (v1 : Int32) (g : z_S) => rc (v1 + 1) g)) zN (v1, 0) g)
def fX2_encode (g : z_S) : Option (Unit × z_S) :=
  z_loop fX2_encode_B2 zN 0 g
def fX2_isTriedAhead_B2 (rc : (Int32 × Int32) → z_S → Option (Int32 × z_S)) (a : Int32 × Int32) (g : z_S) : Option (Int32 × z_S) := match a with
  | (v1, v2) =>
  if v1 ≤ v2 then (some (0, g)) else (z_g (z_in v2 96) (z_g (z_in v1 96) (if g.1 30 (v2).toNatClampNeg = g.1 30 (v1).toNatClampNeg then (some (1, g)) else (rc (v1, (v2 + 1)) g))))
def fX2_isTriedAhead (v1 : Int32) (g : z_S) : Option (Int32 × z_S) :=
  z_loop fX2_isTriedAhead_B2 zN (v1, 0) g
def fX10_codeOf_5_B5 (rc : (Int32 × Int32 × Int32 × Int32) → z_S → Option (Int32 × z_S)) (a : Int32 × Int32 × Int32 × Int32) (g : z_S) : Option (Int32 × z_S) := match a with
  | (v1, v2, v3, v4) =>
  if 5 ≤ v4 then (some (v3, g)) else (if v2 ≤ v4 then (rc (v1, v2, ((v3 * 9) + 0), (v4 + 1)) g) else (z_g (z_in (v1 + v4) 128) (rc (v1, v2, ((v3 * 9) + ((g.1 5 (v1 + v4).toNatClampNeg) + 1)), (v4 + 1)) g)))
def fX10_codeOf_5 (v1 : Int32) (v2 : Int32) (g : z_S) : Option (Int32 × z_S) :=
  z_loop fX10_codeOf_5_B5 zN (v1, v2, 0, 0) g
def fX2_isCodeOfWord_B2 (rc : (Int32 × Int32) → z_S → Option (Int32 × z_S)) (a : Int32 × Int32) (g : z_S) : Option (Int32 × z_S) := match a with
  | (v1, v2) =>
  if g.1 4 0 ≤ v2 then (some (0, g)) else (z_g (z_in v2 16) (if g.1 6 (v2).toNatClampNeg = g.1 26 14 then (z_b (fX10_codeOf_5 (v2 * 8) (g.1 26 14) g) (fun r44 g44 => (if r44 = v1 then (some (1, g44)) else (rc (v1, (v2 + 1)) g44)))) else (rc (v1, (v2 + 1)) g)))
def fX2_isCodeOfWord (v1 : Int32) (g : z_S) : Option (Int32 × z_S) :=
  z_loop fX2_isCodeOfWord_B2 zN (v1, 0) g
def fX2_comesIn_B2 (rc : (Int32 × Int32 × Int32) → z_S → Option (Int32 × z_S)) (a : Int32 × Int32 × Int32) (g : z_S) : Option (Int32 × z_S) := match a with
  | (v1, v2, v3) =>
  if 24 ≤ v3 then (some (0, g)) else (z_g (z_in ((v1 * 24) + v3) 96) (if g.1 30 ((v1 * 24) + v3).toNatClampNeg = v2 then (some (1, g)) else (rc (v1, v2, (v3 + 1)) g)))
def fX2_comesIn (v1 : Int32) (v2 : Int32) (g : z_S) : Option (Int32 × z_S) :=
  z_loop fX2_comesIn_B2 zN (v1, v2, 0) g
def fX2_tryNew_B38 (k80 : Int32 → Int32 → z_S → Option (Unit × z_S)) (rc : (Int32 × Int32 × Int32) → z_S → Option (Unit × z_S)) (a : Int32 × Int32 × Int32) (g : z_S) : Option (Unit × z_S) := match a with
  | (v2, v3, v4) =>
  if g.1 26 0 ≤ v4 then (k80 v2 v3 g) else (z_b (fX2_comesIn v4 v2 g) (fun r51 g51 => (if r51 = 0 then (rc (v2, v3, (v4 + 1)) g51) else (z_g (z_in v4 4) (z_b (fX2_measure v4 g51) (fun r68 g68 => (rc (v2, (v3 + ((g51.1 33 (v4).toNatClampNeg) - r68)), (v4 + 1)) g68)))))))
def fX2_tryNew_J113 (v2 : Int32) (v3 : Int32) (g : z_S) : Option (Unit × z_S) :=
  z_s (z_wi g 26 4 v3) (fun g115 => (z_s (z_wi g115 26 5 v2) (fun g120 => (some ((), g120)))))
def fX2_tryNew (v1 : Int32) (g : z_S) : Option (Unit × z_S) :=
  z_g (z_in v1 96) (if g.1 30 (v1).toNatClampNeg = 0 then (some ((), g)) else (z_b (fX2_isTriedAhead v1 g) (fun r13 g13 => (if r13 = 0 then (z_b (fX2_isCodeOfWord (g.1 30 (v1).toNatClampNeg) g13) (fun r21 g21 => (if r21 = 0 then (z_s (z_wi g21 26 15 (g.1 30 (v1).toNatClampNeg)) (fun g30 => (z_loop (fX2_tryNew_B38 (fun (v2 : Int32) (v3 : Int32) (g : z_S) => z_s (z_wi g 26 15 0) (fun g82 => (if g82.1 26 4 < v3 then (fX2_tryNew_J113 v2 v3 g82) else (if v3 = g82.1 26 4 then (if v3 ≤ 0 then (some ((), g82)) else (if g82.1 26 5 ≤ v2 then (some ((), g82)) else (fX2_tryNew_J113 v2 v3 g82))) else (some ((), g82))))))) zN ((g.1 30 (v1).toNatClampNeg), 0, 0) g30))) else (some ((), g21))))) else (some ((), g13))))))
def fX2_seekNew_B30 (k55 : z_S → Option (Unit × z_S)) (rc : Int32 → z_S → Option (Unit × z_S)) (v2 : Int32) (g : z_S) : Option (Unit × z_S) :=
  if g.1 26 0 ≤ v2 then (k55 g) else (z_b (fX2_measure v2 g) (fun r45 g45 => (z_g (z_in v2 4) (z_s (z_wi g45 33 (v2).toNatClampNeg r45) (fun g48 => (rc (v2 + 1) g48))))))
def fX2_seekNew_B73 (k95 : Int32 → z_S → Option (Unit × z_S)) (rc : (Int32 × Int32) → z_S → Option (Unit × z_S)) (a : Int32 × Int32) (g : z_S) : Option (Unit × z_S) := match a with
  | (v2, v3) =>
  if (g.1 26 0) * 24 ≤ v3 then (k95 v2 g) else (z_b (fX2_tryNew v3 g) (fun _ g86 => (rc (v2, (v3 + 1)) g86)))
def fX2_seekNew_B57 (rc : Int32 → z_S → Option (Unit × z_S)) (v2 : Int32) (g : z_S) : Option (Unit × z_S) :=
  if 5 < v2 then (some ((), g)) else (z_s (z_wi g 26 14 v2) (fun g64 => (z_b (fX2_encode g64) (fun _ g68 => (z_loop (fX2_seekNew_B73 (fun (v2 : Int32) (g : z_S) => rc (v2 + 1) g)) zN (v2, 0) g68)))))
def fX2_seekNew (v1 : Int32) (g : z_S) : Option (Unit × z_S) :=
  if g.1 26 3 = v1 then (some ((), g)) else (z_s (z_wi g 26 3 v1) (fun g11 => (z_s (z_wi g11 26 4 0) (fun g16 => (z_s (z_wi g16 26 5 0) (fun g21 => (z_b (fX2_match g21) (fun _ g25 => (z_loop (fX2_seekNew_B30 (fun (g : z_S) => z_loop fX2_seekNew_B57 zN 2 g)) zN 0 g25)))))))))
def fX10_letterOfCode_B4 (k20 : Int32 → z_S → Option (Int32 × z_S)) (rc : (Int32 × Int32 × Int32) → z_S → Option (Int32 × z_S)) (a : Int32 × Int32 × Int32) (g : z_S) : Option (Int32 × z_S) := match a with
  | (v1, v2, v3) =>
  if v3 ≤ v1 then (k20 v2 g) else (rc (v1, (v2 / 9), (v3 + (-1))) g)
def fX10_letterOfCode (v0 : Int32) (v1 : Int32) (g : z_S) : Option (Int32 × z_S) :=
  z_loop (fX10_letterOfCode_B4 (fun (v2 : Int32) (g : z_S) => some ((v2 - v2 / 9 * 9) - 1, g))) zN (v1, v0, 4) g
def fX10_lengthOfCode_B4 (rc : (Int32 × Int32 × Int32) → z_S → Option (Int32 × z_S)) (a : Int32 × Int32 × Int32) (g : z_S) : Option (Int32 × z_S) := match a with
  | (v0, v1, v2) =>
  if 5 ≤ v2 then (some (v1, g)) else (z_b (fX10_letterOfCode v0 v2 g) (fun r11 g11 => (if r11 = (-1) then (rc (v0, v1, (v2 + 1)) g11) else (rc (v0, (v1 + 1), (v2 + 1)) g11))))
def fX10_lengthOfCode (v0 : Int32) (g : z_S) : Option (Int32 × z_S) :=
  z_loop fX10_lengthOfCode_B4 zN (v0, 0, 0) g
def fX10_fresh (v1 : Int32) (v2 : Int32) (g : z_S) : Option (Int32 × z_S) :=
  if v1 < 0 then (some ((-1002), g)) else (if 99 < v1 then (some ((-1002), g)) else (if v2 < 0 then (some ((-1002), g)) else (if v2 ≤ 6 then (if g.1 4 0 < 16 then (z_b (fX2_seekNew v1 g) (fun _ g45 => (if 0 < g45.1 26 4 then (if v2 = 0 then (some (g45.1 26 4, g45)) else (if v2 = 1 then (z_b (fX10_lengthOfCode (g45.1 26 5) g45) (fun r103 g103 => (some (r103, g103)))) else (z_b (fX10_letterOfCode (g45.1 26 5) (v2 - 2) g45) (fun r117 g117 => (some (r117, g117)))))) else (some ((-1), g45))))) else (some ((-1003), g))) else (some ((-1002), g)))))
