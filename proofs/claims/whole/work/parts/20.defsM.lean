def fX11_in (v0 : Int64) (v2 : Int64) (v4 : Int64) (g : z_S) : Option (Int32 × z_S) :=
  if v0 < v2 then (some (0, g)) else (if v4 < v0 then (some (0, g)) else (some (1, g)))
def fX11_letters (v1 : Int32) (g : z_S) : Option (Int32 × z_S) :=
  z_b (fX11_in ((v1).toInt64) 2 8 g) (fun r8 g8 => (if r8 = 0 then (some ((-1002), g8)) else (z_s (z_wi g8 0 0 v1) (fun g20 => (z_s (z_wi g20 0 1 0) (fun g25 => (z_s (z_wi g25 0 10 0) (fun g30 => (z_s (z_wi g30 0 9 0) (fun g35 => (some (v1, g35))))))))))))
def fX11_feed_B37 (rc : (Int64 × Int32) → z_S → Option (Int32 × z_S)) (a : Int64 × Int32) (g : z_S) : Option (Int32 × z_S) := match a with
  | (v2, v4) =>
  if v4 < 0 then (some (g.1 0 14, g)) else (z_g (z_in (g.1 0 14) 200) (z_s (z_wi g 10 (g.1 0 14).toNatClampNeg (((v2 >>> ((8 * v4).toInt64 &&& 63)) &&& 255).toInt32)) (fun g62 => (z_s (z_wi g62 0 14 ((g62.1 0 14) + 1)) (fun g70 => (rc (v2, (v4 + (-1))) g70))))))
def fX11_feed (v1 : Int32) (v2 : Int64) (g : z_S) : Option (Int32 × z_S) :=
  z_b (fX11_in ((v1).toInt64) 1 8 g) (fun r6 g6 => (if r6 = 0 then (some ((-1002), g6)) else (if (g6.1 0 14) + v1 ≤ 200 then (z_loop fX11_feed_B37 zN (v2, (v1 - 1)) g6) else (some ((-1004), g6)))))
def fX11_here_B0 (k38 : z_S → Option (Int32 × z_S)) (rc : Unit → z_S → Option (Int32 × z_S)) (_a : Unit) (g : z_S) : Option (Int32 × z_S) :=
  if g.1 0 14 ≤ g.1 0 15 then (k38 g) else (z_g (z_in (g.1 0 15) 200) (if g.1 10 (g.1 0 15).toNatClampNeg = 32 then (z_s (z_wi g 0 15 ((g.1 0 15) + 1)) (fun g32 => (rc () g32))) else (k38 g)))
def fX11_here (g : z_S) : Option (Int32 × z_S) :=
  if g.1 0 14 ≤ g.1 0 15 then (if g.1 0 14 ≤ g.1 0 15 then (some ((-1), g)) else (z_g (z_in (g.1 0 15) 200) (some (g.1 10 (g.1 0 15).toNatClampNeg, g)))) else (z_g (z_in (g.1 0 15) 200) (if g.1 10 (g.1 0 15).toNatClampNeg = 32 then (z_s (z_wi g 0 15 ((g.1 0 15) + 1)) (fun g32 => (z_loop (fX11_here_B0 (fun (g : z_S) => if g.1 0 14 ≤ g.1 0 15 then (some ((-1), g)) else (z_g (z_in (g.1 0 15) 200) (some (g.1 10 (g.1 0 15).toNatClampNeg, g))))) zN () g32))) else (if g.1 0 14 ≤ g.1 0 15 then (some ((-1), g)) else (z_g (z_in (g.1 0 15) 200) (some (g.1 10 (g.1 0 15).toNatClampNeg, g))))))
def fX11_want_J21 (g : z_S) : Option (Int32 × z_S) :=
  if g.1 0 16 = 0 then (some (1, g)) else (some (0, g))
def fX11_want (v1 : Int32) (v2 : Int32) (v3 : Int32) (g : z_S) : Option (Int32 × z_S) :=
  if v1 = 0 then (if g.1 0 16 = 0 then (z_s (z_wi g 0 16 v2) (fun g13 => (z_s (z_wi g13 0 17 v3) (fun g18 => (fX11_want_J21 g18))))) else (fX11_want_J21 g)) else (fX11_want_J21 g)
def fX11_takeLetter_J147 (g : z_S) : Option (Int32 × z_S) :=
  if g.1 0 16 = 0 then (some (1, g)) else (some (0, g))
def fX11_takeLetter_J96 (v1 : Int32) (v2 : Int32) (s0 : Int32) (g : z_S) : Option (Int32 × z_S) :=
  z_b (fX11_want s0 3 (g.1 0 15) g) (fun r101 g101 => (if r101 = 0 then (fX11_takeLetter_J147 g101) else (z_g (z_in v1 17) (z_g (z_in ((8 * v1) + (g101.1 12 (v1).toNatClampNeg)) 136) (z_s (z_wi g101 11 ((8 * v1) + (g101.1 12 (v1).toNatClampNeg)).toNatClampNeg (v2 - 97)) (fun g126 => (z_g (z_in v1 17) (z_g (z_in v1 17) (z_s (z_wi g126 12 (v1).toNatClampNeg ((g126.1 12 (v1).toNatClampNeg) + 1)) (fun g136 => (z_s (z_wi g136 0 15 ((g136.1 0 15) + 1)) (fun g144 => (fX11_takeLetter_J147 g144)))))))))))))
def fX11_takeLetter_J68 (v1 : Int32) (v2 : Int32) (s0 : Int32) (g : z_S) : Option (Int32 × z_S) :=
  z_b (fX11_want s0 5 (g.1 0 15) g) (fun r73 g73 => (if r73 = 0 then (fX11_takeLetter_J147 g73) else (z_g (z_in v1 17) (if 8 ≤ g73.1 12 (v1).toNatClampNeg then (fX11_takeLetter_J96 v1 v2 0 g73) else (fX11_takeLetter_J96 v1 v2 1 g73)))))
def fX11_takeLetter_J45 (v1 : Int32) (v2 : Int32) (s0 : Int32) (g : z_S) : Option (Int32 × z_S) :=
  z_b (fX11_want s0 2 (g.1 0 15) g) (fun r50 g50 => (if r50 = 0 then (fX11_takeLetter_J147 g50) else (if 16 ≤ v1 then (fX11_takeLetter_J68 v1 v2 0 g50) else (fX11_takeLetter_J68 v1 v2 1 g50))))
def fX11_takeLetter (v1 : Int32) (g : z_S) : Option (Int32 × z_S) :=
  z_b (fX11_here g) (fun r1 g1 => (z_b (fX11_in ((r1).toInt64) 97 104 g1) (fun r14 g14 => (z_b (fX11_want r14 1 (g14.1 0 15) g14) (fun r22 g22 => (if r22 = 0 then (fX11_takeLetter_J147 g22) else (if g22.1 0 0 ≤ r1 - 97 then (fX11_takeLetter_J45 v1 r1 0 g22) else (fX11_takeLetter_J45 v1 r1 1 g22))))))))
def fX11_isNewLike_B24 (rc : (Int32 × Int32 × Int32 × Int32) → z_S → Option (Int32 × z_S)) (a : Int32 × Int32 × Int32 × Int32) (g : z_S) : Option (Int32 × z_S) := match a with
  | (v1, v2, v3, v4) =>
  z_g (z_in v2 17) (if g.1 12 (v2).toNatClampNeg ≤ v4 then (z_g (v3 &&& 1 == v3) (some (v3, g))) else (if v3 = 0 then (z_g (v3 &&& 1 == v3) (some (v3, g))) else (z_g (z_in ((8 * v1) + v4) 136) (z_g (z_in ((8 * v2) + v4) 136) (if g.1 11 ((8 * v1) + v4).toNatClampNeg = g.1 11 ((8 * v2) + v4).toNatClampNeg then (rc (v1, v2, 1, (v4 + 1)) g) else (rc (v1, v2, 0, (v4 + 1)) g))))))
def fX11_isNewLike (v1 : Int32) (v2 : Int32) (g : z_S) : Option (Int32 × z_S) :=
  z_g (z_in v1 17) (z_g (z_in v2 17) (if g.1 12 (v1).toNatClampNeg = g.1 12 (v2).toNatClampNeg then (z_loop fX11_isNewLike_B24 zN (v1, v2, 1, 0) g) else (z_loop fX11_isNewLike_B24 zN (v1, v2, 0, 0) g)))
def fX11_takeCost_J97 (rc : (Int32 × Int32) → z_S → Option (Int32 × z_S)) (v2 : Int32) (s0 : Int32) (g : z_S) : Option (Int32 × z_S) :=
  z_s (z_wi g 0 15 ((g.1 0 15) + 1)) (fun g105 => (rc (v2, s0) g105))
def fX11_takeCost_B37 (k111 : Int32 → Int32 → z_S → Option (Int32 × z_S)) (rc : (Int32 × Int32) → z_S → Option (Int32 × z_S)) (a : Int32 × Int32) (g : z_S) : Option (Int32 × z_S) := match a with
  | (v2, v3) =>
  if g.1 0 14 ≤ g.1 0 15 then (k111 v2 v3 g) else (z_g (z_in (g.1 0 15) 200) (z_b (fX11_in ((g.1 10 (g.1 0 15).toNatClampNeg).toInt64) 48 57 g) (fun r64 g64 => (if r64 = 0 then (k111 v2 v3 g64) else (if v3 ≤ 99 then (z_g (z_in (g64.1 0 15) 200) (fX11_takeCost_J97 rc v2 (((10 * v3) + (g64.1 10 (g64.1 0 15).toNatClampNeg)) - 48) g64)) else (fX11_takeCost_J97 rc v2 v3 g64))))))
def fX11_takeCost_J127 (v2 : Int32) (v3 : Int32) (s0 : Int32) (g : z_S) : Option (Int32 × z_S) :=
  z_b (fX11_want s0 2 v2 g) (fun r129 g129 => (some (v3, g129)))
def fX11_takeCost (g : z_S) : Option (Int32 × z_S) :=
  z_b (fX11_here g) (fun r1 g1 => (z_b (fX11_in ((r1).toInt64) 48 57 g1) (fun r19 g19 => (z_b (fX11_want r19 1 (g19.1 0 15) g19) (fun r27 g27 => (if r27 = 0 then (some (0, g27)) else (z_loop (fX11_takeCost_B37 (fun (v2 : Int32) (v3 : Int32) (g : z_S) => if 3 ≤ (g.1 0 15) - v2 then (fX11_takeCost_J127 v2 v3 0 g) else (fX11_takeCost_J127 v2 v3 1 g))) zN ((g1.1 0 15), 0) g27)))))))
def fX11_readWord_B43 (k83 : Int32 → Int32 → z_S → Option (Unit × z_S)) (rc : (Int32 × Int32 × Int32) → z_S → Option (Unit × z_S)) (a : Int32 × Int32 × Int32) (g : z_S) : Option (Unit × z_S) := match a with
  | (v2, v3, v4) =>
  if v4 = 0 then (k83 v2 v3 g) else (z_b (fX11_here g) (fun r49 g49 => (z_b (fX11_in ((r49).toInt64) 97 104 g49) (fun r59 g59 => (if r59 = 0 then (rc (v2, v3, 0) g59) else (z_b (fX11_takeLetter v2 g59) (fun r67 g67 => (if r67 = 0 then (rc (v2, v3, 0) g67) else (rc (v2, v3, 1) g67)))))))))
def fX11_readWord_J115 (rc : (Int32 × Int32 × Int32) → z_S → Option (Unit × z_S)) (v2 : Int32) (v3 : Int32) (v5 : Int32) (s0 : Int32) (g : z_S) : Option (Unit × z_S) :=
  z_b (fX11_want s0 4 v3 g) (fun r117 g117 => (rc (v2, v3, (v5 + 1)) g117))
def fX11_readWord_B86 (k128 : Int32 → z_S → Option (Unit × z_S)) (rc : (Int32 × Int32 × Int32) → z_S → Option (Unit × z_S)) (a : Int32 × Int32 × Int32) (g : z_S) : Option (Unit × z_S) := match a with
  | (v2, v3, v5) =>
  if v2 ≤ v5 then (k128 v2 g) else (if g.1 0 16 = 0 then (z_b (fX11_isNewLike v5 v2 g) (fun r104 g104 => (if r104 = 0 then (fX11_readWord_J115 rc v2 v3 v5 1 g104) else (fX11_readWord_J115 rc v2 v3 v5 0 g104)))) else (k128 v2 g))
def fX11_readWord_B224 (k270 : Int32 → Int32 → Int32 → z_S → Option (Unit × z_S)) (rc : (Int32 × Int32 × Int32) → z_S → Option (Unit × z_S)) (a : Int32 × Int32 × Int32) (g : z_S) : Option (Unit × z_S) := match a with
  | (v1, v2, v5) =>
  if g.1 0 14 ≤ g.1 0 15 then (k270 v1 v2 v5 g) else (z_g (z_in (g.1 0 15) 200) (z_b (fX11_in ((g.1 10 (g.1 0 15).toNatClampNeg).toInt64) 48 57 g) (fun r251 g251 => (if r251 = 0 then (k270 v1 v2 v5 g251) else (z_s (z_wi g251 0 15 ((g251.1 0 15) + 1)) (fun g264 => (rc (v1, v2, v5) g264)))))))
def fX11_readWord_J335 (s0 : Int32) (g : z_S) : Option (Unit × z_S) :=
  z_b (fX11_want s0 1 (g.1 0 15) g) (fun r340 g340 => (if r340 = 0 then (some ((), g340)) else (z_s (z_wi g340 0 15 ((g340.1 0 15) + 1)) (fun g353 => (z_s (z_wi g353 0 22 ((g353.1 0 22) + 1)) (fun g363 => (some ((), g363))))))))
def fX11_readWord_J311 (g : z_S) : Option (Unit × z_S) :=
  if g.1 0 16 = 0 then (z_b (fX11_here g) (fun r319 g319 => (if r319 = 59 then (fX11_readWord_J335 1 g319) else (fX11_readWord_J335 0 g319)))) else (some ((), g))
def fX11_readWord_J303 (v5 : Int32) (s0 : Int32) (g : z_S) : Option (Unit × z_S) :=
  z_b (fX11_want s0 2 v5 g) (fun r306 g306 => (fX11_readWord_J311 g306))
def fX11_readWord_J164 (v2 : Int32) (g : z_S) : Option (Unit × z_S) :=
  if g.1 0 16 = 0 then (z_b (fX11_here g) (fun r172 g172 => (if r172 = 47 then (z_s (z_wi g172 0 15 ((g172.1 0 15) + 1)) (fun g187 => (z_b (fX11_here g187) (fun r191 g191 => (z_b (fX11_in ((r191).toInt64) 48 57 g191) (fun r210 g210 => (z_b (fX11_want r210 1 (g210.1 0 15) g210) (fun r218 g218 => (if r218 = 0 then (fX11_readWord_J311 g218) else (z_loop (fX11_readWord_B224 (fun (v1 : Int32) (v2 : Int32) (v5 : Int32) (g : z_S) => z_g (z_in v2 17) (z_s (z_wi g 14 (v2).toNatClampNeg (v1 - 48)) (fun g279 => (if g279.1 0 15 = v5 + 1 then (if 52 ≤ v1 then (fX11_readWord_J303 v5 0 g279) else (fX11_readWord_J303 v5 1 g279)) else (fX11_readWord_J303 v5 0 g279)))))) zN (r191, v2, (g191.1 0 15)) g218)))))))))) else (fX11_readWord_J311 g172)))) else (fX11_readWord_J311 g)
def fX11_readWord (g : z_S) : Option (Unit × z_S) :=
  z_b (fX11_here g) (fun r1 g1 => (z_g (z_in (g1.1 0 22) 17) (z_s (z_wi g1 12 (g1.1 0 22).toNatClampNeg 0) (fun g21 => (z_g (z_in (g1.1 0 22) 17) (z_s (z_wi g21 13 (g1.1 0 22).toNatClampNeg 1) (fun g28 => (z_g (z_in (g1.1 0 22) 17) (z_s (z_wi g28 14 (g1.1 0 22).toNatClampNeg 0) (fun g35 => (z_b (fX11_takeLetter (g1.1 0 22) g35) (fun r38 g38 => (z_loop (fX11_readWord_B43 (fun (v2 : Int32) (v3 : Int32) (g : z_S) => z_loop (fX11_readWord_B86 (fun (v2 : Int32) (g : z_S) => if g.1 0 16 = 0 then (z_b (fX11_here g) (fun r136 g136 => (if r136 = 58 then (z_s (z_wi g136 0 15 ((g136.1 0 15) + 1)) (fun g151 => (z_b (fX11_takeCost g151) (fun r160 g160 => (z_g (z_in v2 17) (z_s (z_wi g160 13 (v2).toNatClampNeg r160) (fun g163 => (fX11_readWord_J164 v2 g163)))))))) else (fX11_readWord_J164 v2 g136)))) else (fX11_readWord_J164 v2 g))) zN (v2, v3, 0) g)) zN ((g1.1 0 22), (g1.1 0 15), r38) g38)))))))))))))
def fX11_read_B20 (k41 : z_S → Option (Int32 × z_S)) (rc : Unit → z_S → Option (Int32 × z_S)) (_a : Unit) (g : z_S) : Option (Int32 × z_S) :=
  if g.1 0 16 = 0 then (z_b (fX11_here g) (fun r28 g28 => (if r28 < 0 then (k41 g28) else (z_b (fX11_readWord g28) (fun _ g35 => (rc () g35)))))) else (k41 g)
def fX11_read_B117 (k155 : Int32 → z_S → Option (Int32 × z_S)) (rc : (Int32 × Int32) → z_S → Option (Int32 × z_S)) (a : Int32 × Int32) (g : z_S) : Option (Int32 × z_S) := match a with
  | (v1, v2) =>
  z_g (z_in v1 17) (if g.1 2 (v1).toNatClampNeg ≤ v2 then (k155 v1 g) else (z_g (z_in ((8 * v1) + v2) 136) (z_g (z_in ((8 * v1) + v2) 136) (z_s (z_wi g 1 ((8 * v1) + v2).toNatClampNeg (g.1 11 ((8 * v1) + v2).toNatClampNeg)) (fun g148 => (rc (v1, (v2 + 1)) g148))))))
def fX11_read_B71 (rc : Int32 → z_S → Option (Int32 × z_S)) (v1 : Int32) (g : z_S) : Option (Int32 × z_S) :=
  if g.1 0 1 ≤ v1 then (some (g.1 0 1, g)) else (z_g (z_in v1 17) (z_g (z_in v1 17) (z_s (z_wi g 2 (v1).toNatClampNeg (g.1 12 (v1).toNatClampNeg)) (fun g90 => (z_g (z_in v1 17) (z_g (z_in v1 17) (z_s (z_wi g90 3 (v1).toNatClampNeg (g90.1 13 (v1).toNatClampNeg)) (fun g102 => (z_g (z_in v1 17) (z_g (z_in v1 17) (z_s (z_wi g102 4 (v1).toNatClampNeg (g102.1 14 (v1).toNatClampNeg)) (fun g114 => (z_loop (fX11_read_B117 (fun (v1 : Int32) (g : z_S) => rc (v1 + 1) g)) zN (v1, 0) g114)))))))))))))
def fX11_read (g : z_S) : Option (Int32 × z_S) :=
  z_s (z_wi g 0 15 0) (fun g2 => (z_s (z_wi g2 0 16 0) (fun g7 => (z_s (z_wi g7 0 17 (-1)) (fun g12 => (z_s (z_wi g12 0 22 0) (fun g17 => (z_loop (fX11_read_B20 (fun (g : z_S) => z_s (z_wi g 0 14 0) (fun g43 => (if g43.1 0 16 ≤ 0 then (z_s (z_wi g43 0 1 (g43.1 0 22)) (fun g66 => (z_loop fX11_read_B71 zN 0 g66))) else (some ((-10) - (g43.1 0 16), g43)))))) zN () g17))))))))
def fX11_fault (g : z_S) : Option (Int32 × z_S) :=
  some (g.1 0 17, g)
def fX11_noWord (v1 : Int32) (g : z_S) : Option (Int32 × z_S) :=
  z_b (fX11_in ((v1).toInt64) 0 (((g.1 0 1) - 1).toInt64) g) (fun r10 g10 => (if r10 = 0 then (some (1, g10)) else (some (0, g10))))
def fX11_word (v1 : Int32) (v2 : Int32) (g : z_S) : Option (Int32 × z_S) :=
  z_b (fX11_noWord v1 g) (fun r2 g2 => (if r2 = 0 then (z_b (fX11_in ((v2).toInt64) 0 10 g2) (fun r18 g18 => (if r18 = 0 then (some ((-1002), g18)) else (if v2 = 0 then (z_g (z_in v1 17) (some (g18.1 3 (v1).toNatClampNeg, g18))) else (if v2 = 1 then (z_g (z_in v1 17) (some (g18.1 4 (v1).toNatClampNeg, g18))) else (if v2 = 2 then (z_g (z_in v1 17) (some (g18.1 2 (v1).toNatClampNeg, g18))) else (z_g (z_in v1 17) (if g18.1 2 (v1).toNatClampNeg ≤ v2 - 3 then (some ((-1), g18)) else (z_g (z_in (((8 * v1) + v2) - 3) 136) (some (g18.1 1 (((8 * v1) + v2) - 3).toNatClampNeg, g18))))))))))) else (some ((-1001), g2))))
def fX11_one (v0 : Int32) (g : z_S) : Option (Int32 × z_S) :=
  if v0 = 0 then (some (0, g)) else (some (1, g))
def fX11_follows (v1 : Int32) (v2 : Int32) (v3 : Int32) (g : z_S) : Option (Int32 × z_S) :=
  z_b (fX11_in ((v1).toInt64) 0 3 g) (fun r6 g6 => (if r6 = 0 then (some ((-1002), g6)) else (z_b (fX11_in ((v2).toInt64) 0 3 g6) (fun r18 g18 => (if r18 = 0 then (some ((-1002), g18)) else (z_g (z_in ((4 * v1) + v2) 16) (z_b (fX11_one (g18.1 5 ((4 * v1) + v2).toNatClampNeg) g18) (fun r38 g38 => (z_g (z_in ((4 * v1) + v2) 16) (z_s (z_wi g38 5 ((4 * v1) + v2).toNatClampNeg (v3 &&& 1)) (fun g53 => (some (r38, g53)))))))))))))
def fX11_count (v1 : Int32) (g : z_S) : Option (Int32 × z_S) :=
  if v1 = 0 then (some (g.1 0 0, g)) else (if v1 = 1 then (some (g.1 0 1, g)) else (if v1 = 2 then (some (g.1 0 9, g)) else (if v1 = 3 then (some (g.1 0 14, g)) else (if v1 = 4 then (some (g.1 0 10, g)) else (some ((-1002), g))))))
def fX11_letter (v1 : Int32) (g : z_S) : Option (Int32 × z_S) :=
  z_b (fX11_in ((v1).toInt64) 0 (((g.1 0 0) - 1).toInt64) g) (fun r10 g10 => (if r10 = 0 then (some ((-1002), g10)) else (if g10.1 0 9 = 48 then (some ((-1004), g10)) else (z_g (z_in (g10.1 0 9) 48) (z_s (z_wi g10 7 (g10.1 0 9).toNatClampNeg v1) (fun g42 => (z_s (z_wi g42 0 9 ((g42.1 0 9) + 1)) (fun g50 => (some (g50.1 0 9, g50))))))))))
def fX11_append_B34 (rc : (Int32 × Int32) → z_S → Option (Int32 × z_S)) (a : Int32 × Int32) (g : z_S) : Option (Int32 × z_S) := match a with
  | (v1, v2) =>
  z_g (z_in v1 17) (if g.1 2 (v1).toNatClampNeg ≤ v2 then (some (g.1 0 9, g)) else (z_g (z_in ((8 * v1) + v2) 136) (z_g (z_in (g.1 0 9) 48) (z_s (z_wi g 7 (g.1 0 9).toNatClampNeg (g.1 1 ((8 * v1) + v2).toNatClampNeg)) (fun g63 => (z_s (z_wi g63 0 9 ((g63.1 0 9) + 1)) (fun g71 => (rc (v1, (v2 + 1)) g71))))))))
def fX11_append (v1 : Int32) (g : z_S) : Option (Int32 × z_S) :=
  z_b (fX11_noWord v1 g) (fun r2 g2 => (if r2 = 0 then (z_g (z_in v1 17) (if (g2.1 0 9) + (g2.1 2 (v1).toNatClampNeg) ≤ 48 then (z_loop fX11_append_B34 zN (v1, 0) g2) else (some ((-1004), g2)))) else (some ((-1001), g2))))
def fX11_clear (g : z_S) : Option (Int32 × z_S) :=
  z_s (z_wi g 0 9 0) (fun g7 => (some (g.1 0 9, g7)))
def fX11_cell (v0 : Int32) (v1 : Int32) (g : z_S) : Option (Int32 × z_S) :=
  some ((5 * v0) + v1, g)
def fX11_beginCell_J51 (v1 : Int32) (v2 : Int32) (s0 : Int32) (s1 : Int32) (g : z_S) : Option (Unit × z_S) :=
  z_g (z_in s1 245) (z_s (z_wi g 18 (s1).toNatClampNeg s0) (fun g51 => (if v2 = 0 then (z_g (z_in v1 245) (z_s (z_wi g51 19 (v1).toNatClampNeg (-1)) (fun g66 => (some ((), g66))))) else (z_g (z_in v1 245) (z_s (z_wi g51 19 (v1).toNatClampNeg 0) (fun g66 => (some ((), g66))))))))
def fX11_beginCell_J25 (v1 : Int32) (v2 : Int32) (s0 : Int32) (s1 : Int32) (g : z_S) : Option (Unit × z_S) :=
  z_g (z_in s1 245) (z_s (z_wi g 16 (s1).toNatClampNeg s0) (fun g25 => (z_b (fX11_one v2 g25) (fun r32 g32 => (z_g (z_in v1 245) (z_s (z_wl g32 17 (v1).toNatClampNeg ((r32).toInt64)) (fun g36 => (if v2 = 0 then (fX11_beginCell_J51 v1 v2 (-1) v1 g36) else (fX11_beginCell_J51 v1 v2 0 v1 g36)))))))))
def fX11_beginCell (v1 : Int32) (v2 : Int32) (g : z_S) : Option (Unit × z_S) :=
  z_b (fX11_one v2 g) (fun r6 g6 => (z_g (z_in v1 245) (z_s (z_wl g6 15 (v1).toNatClampNeg ((r6).toInt64)) (fun g10 => (if v2 = 0 then (fX11_beginCell_J25 v1 v2 (-1) v1 g10) else (fX11_beginCell_J25 v1 v2 0 v1 g10))))))
def fX11_mayFollow (v1 : Int32) (v2 : Int32) (g : z_S) : Option (Int32 × z_S) :=
  if v1 = 4 then (some (1, g)) else (z_g (z_in v2 17) (z_g (z_in ((4 * v1) + (g.1 4 (v2).toNatClampNeg)) 16) (if g.1 5 ((4 * v1) + (g.1 4 (v2).toNatClampNeg)).toNatClampNeg = 0 then (some (0, g)) else (some (1, g)))))
def fX11_stands_B24 (rc : (Int32 × Int32 × Int32 × Int32) → z_S → Option (Int32 × z_S)) (a : Int32 × Int32 × Int32 × Int32) (g : z_S) : Option (Int32 × z_S) := match a with
  | (v1, v2, v3, v4) =>
  z_g (z_in v1 17) (if g.1 2 (v1).toNatClampNeg ≤ v4 then (z_g (v3 &&& 1 == v3) (some (v3, g))) else (if v3 = 0 then (z_g (v3 &&& 1 == v3) (some (v3, g))) else (z_g (z_in (v2 + v4) 48) (z_g (z_in ((8 * v1) + v4) 136) (if g.1 7 (v2 + v4).toNatClampNeg = g.1 1 ((8 * v1) + v4).toNatClampNeg then (rc (v1, v2, 1, (v4 + 1)) g) else (rc (v1, v2, 0, (v4 + 1)) g))))))
def fX11_stands (v1 : Int32) (v2 : Int32) (g : z_S) : Option (Int32 × z_S) :=
  z_g (z_in v1 17) (if g.1 0 9 < v2 + (g.1 2 (v1).toNatClampNeg) then (z_loop fX11_stands_B24 zN (v1, v2, 0, 0) g) else (z_loop fX11_stands_B24 zN (v1, v2, 1, 0) g))
def fX11_addWord_J196 (v1 : Int32) (v3 : Int32) (s0 : Int32) (s1 : Int32) (g : z_S) : Option (Unit × z_S) :=
  z_g (z_in s1 245) (z_s (z_wi g 18 (s1).toNatClampNeg s0) (fun g196 => (z_g (z_in v3 245) (z_g (z_in v1 245) (if (g196.1 19 (v3).toNatClampNeg) + 1 ≤ g196.1 19 (v1).toNatClampNeg then (z_g (z_in v1 245) (z_g (z_in v1 245) (z_s (z_wi g196 19 (v1).toNatClampNeg (g196.1 19 (v1).toNatClampNeg)) (fun g236 => (some ((), g236)))))) else (z_g (z_in v3 245) (z_g (z_in v1 245) (z_s (z_wi g196 19 (v1).toNatClampNeg ((g196.1 19 (v3).toNatClampNeg) + 1)) (fun g236 => (some ((), g236)))))))))))
def fX11_addWord_J179 (v1 : Int32) (v3 : Int32) (s0 : Int32) (g : z_S) : Option (Unit × z_S) :=
  z_g (z_in v3 245) (fX11_addWord_J196 v1 v3 ((g.1 18 (v3).toNatClampNeg) + 1) s0 g)
def fX11_addWord_J148 (v1 : Int32) (v3 : Int32) (g : z_S) : Option (Unit × z_S) :=
  z_g (z_in v1 245) (if g.1 18 (v1).toNatClampNeg < 0 then (fX11_addWord_J179 v1 v3 v1 g) else (z_g (z_in v3 245) (z_g (z_in v1 245) (if g.1 18 (v1).toNatClampNeg ≤ (g.1 18 (v3).toNatClampNeg) + 1 then (z_g (z_in v1 245) (fX11_addWord_J196 v1 v3 (g.1 18 (v1).toNatClampNeg) v1 g)) else (fX11_addWord_J179 v1 v3 v1 g)))))
def fX11_addWord_J99 (v1 : Int32) (v3 : Int32) (v6 : Int32) (g : z_S) : Option (Unit × z_S) :=
  z_g (z_in v1 245) (if v6 = g.1 16 (v1).toNatClampNeg then (z_g (z_in v1 245) (z_g (z_in v3 245) (if (g.2 17 (v1).toNatClampNeg) + (g.2 17 (v3).toNatClampNeg) ≤ 2000000000000000 then (z_g (z_in v1 245) (z_s (z_wl g 17 (v1).toNatClampNeg ((g.2 17 (v1).toNatClampNeg) + (g.2 17 (v3).toNatClampNeg))) (fun g147 => (fX11_addWord_J148 v1 v3 g147)))) else (z_g (z_in v1 245) (z_s (z_wl g 17 (v1).toNatClampNeg 2000000000000000) (fun g147 => (fX11_addWord_J148 v1 v3 g147))))))) else (fX11_addWord_J148 v1 v3 g))
def fX11_addWord_J84 (v1 : Int32) (v3 : Int32) (v6 : Int32) (g : z_S) : Option (Unit × z_S) :=
  z_g (z_in v1 245) (z_s (z_wi g 16 (v1).toNatClampNeg v6) (fun g91 => (z_g (z_in v1 245) (z_s (z_wl g91 17 (v1).toNatClampNeg 0) (fun g98 => (fX11_addWord_J99 v1 v3 v6 g98))))))
def fX11_addWord_J48 (v1 : Int32) (v2 : Int32) (v3 : Int32) (s0 : Int64) (s1 : Int32) (g : z_S) : Option (Unit × z_S) :=
  z_g (z_in s1 245) (z_s (z_wl g 15 (s1).toNatClampNeg s0) (fun g48 => (z_g (z_in v2 17) (z_g (z_in v3 245) (z_g (z_in v1 245) (if g48.1 16 (v1).toNatClampNeg < 0 then (fX11_addWord_J84 v1 v3 ((g48.1 3 (v2).toNatClampNeg) + (g48.1 16 (v3).toNatClampNeg)) g48) else (z_g (z_in v1 245) (if g48.1 16 (v1).toNatClampNeg ≤ (g48.1 3 (v2).toNatClampNeg) + (g48.1 16 (v3).toNatClampNeg) then (fX11_addWord_J99 v1 v3 ((g48.1 3 (v2).toNatClampNeg) + (g48.1 16 (v3).toNatClampNeg)) g48) else (fX11_addWord_J84 v1 v3 ((g48.1 3 (v2).toNatClampNeg) + (g48.1 16 (v3).toNatClampNeg)) g48)))))))))
def fX11_addWord (v1 : Int32) (v2 : Int32) (v3 : Int32) (g : z_S) : Option (Unit × z_S) :=
  z_g (z_in v3 245) (if g.2 15 (v3).toNatClampNeg ≤ 0 then (some ((), g)) else (z_g (z_in v1 245) (z_g (z_in v3 245) (if (g.2 15 (v1).toNatClampNeg) + (g.2 15 (v3).toNatClampNeg) ≤ 2000000000000000 then (fX11_addWord_J48 v1 v2 v3 ((g.2 15 (v1).toNatClampNeg) + (g.2 15 (v3).toNatClampNeg)) v1 g) else (fX11_addWord_J48 v1 v2 v3 2000000000000000 v1 g)))))
def fX11_findReadings_B43 (k112 : Int32 → Int32 → z_S → Option (Unit × z_S)) (rc : (Int32 × Int32 × Int32 × Int32) → z_S → Option (Unit × z_S)) (a : Int32 × Int32 × Int32 × Int32) (g : z_S) : Option (Unit × z_S) := match a with
  | (v1, v2, v3, v4) =>
  if g.1 0 1 ≤ v4 then (k112 v1 v2 g) else (if g.1 0 9 ≤ v1 then (k112 v1 v2 g) else (z_b (fX11_mayFollow v2 v4 g) (fun r64 g64 => (if r64 = 0 then (rc (v1, v2, v3, (v4 + 1)) g64) else (z_b (fX11_stands v4 v1 g64) (fun r74 g74 => (if r74 = 0 then (rc (v1, v2, v3, (v4 + 1)) g74) else (z_g (z_in v4 17) (z_g (z_in v4 17) (z_b (fX11_cell (v1 + (g74.1 2 (v4).toNatClampNeg)) (g74.1 4 (v4).toNatClampNeg) g74) (fun r100 g100 => (z_b (fX11_addWord v3 v4 r100 g100) (fun _ g103 => (rc (v1, v2, v3, (v4 + 1)) g103))))))))))))))
def fX11_findReadings_J37 (rc : (Int32 × Int32) → z_S → Option (Unit × z_S)) (v1 : Int32) (v2 : Int32) (v3 : Int32) (s0 : Int32) (s1 : Int32) (g : z_S) : Option (Unit × z_S) :=
  z_b (fX11_beginCell s1 s0 g) (fun _ g37 => (z_loop (fX11_findReadings_B43 (fun (v1 : Int32) (v2 : Int32) (g : z_S) => rc (v1, (v2 + 1)) g)) zN (v1, v2, v3, 0) g37))
def fX11_findReadings_B11 (k118 : Int32 → z_S → Option (Unit × z_S)) (rc : (Int32 × Int32) → z_S → Option (Unit × z_S)) (a : Int32 × Int32) (g : z_S) : Option (Unit × z_S) := match a with
  | (v1, v2) =>
  if 4 < v2 then (k118 v1 g) else (z_b (fX11_cell v1 v2 g) (fun r18 g18 => (if v1 = g18.1 0 9 then (fX11_findReadings_J37 rc v1 v2 r18 1 r18 g18) else (fX11_findReadings_J37 rc v1 v2 r18 0 r18 g18))))
def fX11_findReadings_B5 (rc : Int32 → z_S → Option (Unit × z_S)) (v1 : Int32) (g : z_S) : Option (Unit × z_S) :=
  if v1 < 0 then (some ((), g)) else (z_loop (fX11_findReadings_B11 (fun (v1 : Int32) (g : z_S) => rc (v1 + (-1)) g)) zN (v1, 0) g)
def fX11_findReadings (g : z_S) : Option (Unit × z_S) :=
  z_loop fX11_findReadings_B5 zN (g.1 0 9) g
def fX11_readings (g : z_S) : Option (Int64 × z_S) :=
  z_b (fX11_findReadings g) (fun _ g1 => (z_b (fX11_cell 0 4 g1) (fun r10 g10 => (z_g (z_in r10 245) (if g10.2 15 (r10).toNatClampNeg ≤ 1000000000000000 then (z_b (fX11_cell 0 4 g10) (fun r33 g33 => (z_g (z_in r33 245) (some (g33.2 15 (r33).toNatClampNeg, g33))))) else (some ((-1005), g10)))))))
def fX11_reading_B67 (k158 : Int32 → Int64 → Int32 → Int32 → Int32 → z_S → Option (Int32 × z_S)) (rc : (Int32 × Int64 × Int32 × Int32 × Int32 × Int32 × Int32) → z_S → Option (Int32 × z_S)) (a : Int32 × Int64 × Int32 × Int32 × Int32 × Int32 × Int32) (g : z_S) : Option (Int32 × z_S) := match a with
  | (v3, v4, v6, v7, v8, v9, v10) =>
  if g.1 0 1 ≤ v10 then (k158 v3 v4 v6 v8 v9 g) else (if 0 ≤ v9 then (k158 v3 v4 v6 v8 v9 g) else (z_b (fX11_mayFollow v7 v10 g) (fun r86 g86 => (if r86 = 0 then (rc (v3, v4, v6, v7, v8, v9, (v10 + 1)) g86) else (z_b (fX11_stands v10 v6 g86) (fun r97 g97 => (if r97 = 0 then (rc (v3, v4, v6, v7, v8, v9, (v10 + 1)) g97) else (z_g (z_in v10 17) (z_g (z_in v10 17) (z_b (fX11_cell (v6 + (g97.1 2 (v10).toNatClampNeg)) (g97.1 4 (v10).toNatClampNeg) g97) (fun r124 g124 => (z_g (z_in r124 245) (if g124.2 15 (r124).toNatClampNeg ≤ v4 then (rc (v3, (v4 - (g124.2 15 (r124).toNatClampNeg)), v6, v7, v8, v9, (v10 + 1)) g124) else (rc (v3, v4, v6, v7, v8, v10, (v10 + 1)) g124))))))))))))))
def fX11_reading_B52 (rc : (Int32 × Int64 × Int32 × Int32 × Int32) → z_S → Option (Int32 × z_S)) (a : Int32 × Int64 × Int32 × Int32 × Int32) (g : z_S) : Option (Int32 × z_S) := match a with
  | (v3, v4, v6, v7, v8) =>
  if g.1 0 9 ≤ v6 then (some ((-1), g)) else (z_loop (fX11_reading_B67 (fun (v3 : Int32) (v4 : Int64) (v6 : Int32) (v8 : Int32) (v9 : Int32) (g : z_S) => if v8 = v3 then (some (v9, g)) else (z_g (z_in v9 17) (z_g (z_in v9 17) (rc (v3, v4, (v6 + (g.1 2 (v9).toNatClampNeg)), (g.1 4 (v9).toNatClampNeg), (v8 + 1)) g))))) zN (v3, v4, v6, v7, v8, (-1), 0) g)
def fX11_reading (v1 : Int64) (v3 : Int32) (g : z_S) : Option (Int32 × z_S) :=
  z_b (fX11_in v1 0 1000000000000000 g) (fun r5 g5 => (if r5 = 0 then (some ((-1002), g5)) else (z_b (fX11_findReadings g5) (fun _ g16 => (z_b (fX11_cell 0 4 g16) (fun r25 g25 => (z_g (z_in r25 245) (if g25.2 15 (r25).toNatClampNeg ≤ v1 then (some ((-1), g25)) else (if 0 ≤ v3 then (z_loop fX11_reading_B52 zN (v3, v1, 0, 4, 0) g25) else (some ((-1), g25)))))))))))
def fX11_best (v1 : Int32) (g : z_S) : Option (Int32 × z_S) :=
  z_b (fX11_in ((v1).toInt64) 0 3 g) (fun r6 g6 => (if r6 = 0 then (some ((-1002), g6)) else (z_b (fX11_findReadings g6) (fun _ g17 => (z_b (fX11_cell 0 4 g17) (fun r22 g22 => (if v1 = 0 then (z_g (z_in r22 245) (some (g22.1 16 (r22).toNatClampNeg, g22))) else (if v1 = 1 then (z_g (z_in r22 245) (if g22.2 17 (r22).toNatClampNeg ≤ 1000000000 then (z_g (z_in r22 245) (some ((g22.2 17 (r22).toNatClampNeg).toInt32, g22))) else (some ((-1005), g22)))) else (if v1 = 2 then (z_g (z_in r22 245) (some (g22.1 18 (r22).toNatClampNeg, g22))) else (z_g (z_in r22 245) (some (g22.1 19 (r22).toNatClampNeg, g22))))))))))))
def fX11_cheapest_J146 (rc : (Int32 × Int32 × Int32 × Int32 × Int32 × Int32) → z_S → Option (Int32 × z_S)) (v1 : Int32) (v2 : Int32) (v3 : Int32) (v4 : Int32) (v6 : Int32) (s0 : Int32) (g : z_S) : Option (Int32 × z_S) :=
  if s0 = 0 then (rc (v1, v2, v3, v4, (-1), (v6 + 1)) g) else (rc (v1, v2, v3, v4, v6, (v6 + 1)) g)
def fX11_cheapest_B46 (k167 : Int32 → Int32 → Int32 → Int32 → z_S → Option (Int32 × z_S)) (rc : (Int32 × Int32 × Int32 × Int32 × Int32 × Int32) → z_S → Option (Int32 × z_S)) (a : Int32 × Int32 × Int32 × Int32 × Int32 × Int32) (g : z_S) : Option (Int32 × z_S) := match a with
  | (v1, v2, v3, v4, v5, v6) =>
  if g.1 0 1 ≤ v6 then (k167 v1 v2 v4 v5 g) else (if 0 ≤ v5 then (k167 v1 v2 v4 v5 g) else (z_g (z_in v6 17) (z_g (z_in v6 17) (z_b (fX11_cell (v2 + (g.1 2 (v6).toNatClampNeg)) (g.1 4 (v6).toNatClampNeg) g) (fun r76 g76 => (z_b (fX11_mayFollow v3 v6 g76) (fun r85 g85 => (if r85 = 0 then (fX11_cheapest_J146 rc v1 v2 v3 v4 v6 0 g85) else (z_b (fX11_stands v6 v2 g85) (fun r95 g95 => (if r95 = 0 then (fX11_cheapest_J146 rc v1 v2 v3 v4 v6 0 g95) else (z_g (z_in r76 245) (if g95.2 15 (r76).toNatClampNeg ≤ 0 then (fX11_cheapest_J146 rc v1 v2 v3 v4 v6 0 g95) else (z_g (z_in v6 17) (z_g (z_in r76 245) (z_b (fX11_cell v2 v3 g95) (fun r134 g134 => (z_g (z_in r134 245) (if (g95.1 3 (v6).toNatClampNeg) + (g95.1 16 (r76).toNatClampNeg) = g134.1 16 (r134).toNatClampNeg then (fX11_cheapest_J146 rc v1 v2 v3 v4 v6 1 g134) else (fX11_cheapest_J146 rc v1 v2 v3 v4 v6 0 g134))))))))))))))))))))
def fX11_cheapest_B32 (rc : (Int32 × Int32 × Int32 × Int32) → z_S → Option (Int32 × z_S)) (a : Int32 × Int32 × Int32 × Int32) (g : z_S) : Option (Int32 × z_S) := match a with
  | (v1, v2, v3, v4) =>
  if g.1 0 9 ≤ v2 then (some ((-1), g)) else (z_loop (fX11_cheapest_B46 (fun (v1 : Int32) (v2 : Int32) (v4 : Int32) (v5 : Int32) (g : z_S) => if v4 = v1 then (some (v5, g)) else (z_g (z_in v5 17) (z_g (z_in v5 17) (rc (v1, (v2 + (g.1 2 (v5).toNatClampNeg)), (g.1 4 (v5).toNatClampNeg), (v4 + 1)) g))))) zN (v1, v2, v3, v4, (-1), 0) g)
def fX11_cheapest (v1 : Int32) (g : z_S) : Option (Int32 × z_S) :=
  z_b (fX11_findReadings g) (fun _ g1 => (if v1 < 0 then (some ((-1), g1)) else (z_b (fX11_cell 0 4 g1) (fun r14 g14 => (z_g (z_in r14 245) (if g14.2 15 (r14).toNatClampNeg = 0 then (some ((-1), g14)) else (z_loop fX11_cheapest_B32 zN (v1, 0, 4, 0) g14)))))))
def fX11_end_B24 (k57 : Int32 → z_S → Option (Int32 × z_S)) (rc : (Int32 × Int32) → z_S → Option (Int32 × z_S)) (a : Int32 × Int32) (g : z_S) : Option (Int32 × z_S) := match a with
  | (v1, v2) =>
  if 245 ≤ v2 then (k57 v1 g) else (z_b (fX11_cell 0 4 g) (fun r39 g39 => (if v2 = r39 then (z_g (z_in v2 245) (z_s (z_wi g39 20 (v2).toNatClampNeg (1 &&& 1)) (fun g50 => (rc (v1, (v2 + 1)) g50)))) else (z_g (z_in v2 245) (z_s (z_wi g39 20 (v2).toNatClampNeg (0 &&& 1)) (fun g50 => (rc (v1, (v2 + 1)) g50)))))))
def fX11_end_B81 (k213 : Int32 → Int32 → Int32 → Int32 → z_S → Option (Int32 × z_S)) (rc : (Int32 × Int32 × Int32 × Int32 × Int32) → z_S → Option (Int32 × z_S)) (a : Int32 × Int32 × Int32 × Int32 × Int32) (g : z_S) : Option (Int32 × z_S) := match a with
  | (v1, v2, v3, v4, v5) =>
  if g.1 0 1 ≤ v5 then (k213 v1 v2 v3 v4 g) else (z_b (fX11_cell v3 v4 g) (fun r97 g97 => (z_g (z_in r97 245) (if g97.1 20 (r97).toNatClampNeg = 0 then (k213 v1 v2 v3 v4 g97) else (z_b (fX11_mayFollow v4 v5 g97) (fun r109 g109 => (if r109 = 0 then (rc (v1, v2, v3, v4, (v5 + 1)) g109) else (z_b (fX11_stands v5 v3 g109) (fun r119 g119 => (if r119 = 0 then (rc (v1, v2, v3, v4, (v5 + 1)) g119) else (z_g (z_in v5 17) (z_g (z_in v5 17) (z_b (fX11_cell (v3 + (g119.1 2 (v5).toNatClampNeg)) (g119.1 4 (v5).toNatClampNeg) g119) (fun r145 g145 => (z_g (z_in r145 245) (if g145.2 15 (r145).toNatClampNeg ≤ 0 then (rc (v1, v2, v3, v4, (v5 + 1)) g145) else (z_g (z_in v5 17) (z_g (z_in v5 17) (z_b (fX11_cell (v3 + (g145.1 2 (v5).toNatClampNeg)) (g145.1 4 (v5).toNatClampNeg) g145) (fun r174 g174 => (z_g (z_in r174 245) (z_s (z_wi g174 20 (r174).toNatClampNeg (1 &&& 1)) (fun g178 => (if v2 = 0 then (if v1 ≤ v3 then (rc (v1, 0, v3, v4, (v5 + 1)) g178) else (z_g (z_in v5 17) (if v3 + (g178.1 2 (v5).toNatClampNeg) ≤ v1 then (rc (v1, 0, v3, v4, (v5 + 1)) g178) else (rc (v1, 1, v3, v4, (v5 + 1)) g178)))) else (rc (v1, 1, v3, v4, (v5 + 1)) g178)))))))))))))))))))))))))
def fX11_end_B72 (k219 : Int32 → Int32 → Int32 → z_S → Option (Int32 × z_S)) (rc : (Int32 × Int32 × Int32 × Int32) → z_S → Option (Int32 × z_S)) (a : Int32 × Int32 × Int32 × Int32) (g : z_S) : Option (Int32 × z_S) := match a with
  | (v1, v2, v3, v4) =>
  if 4 < v4 then (k219 v1 v2 v3 g) else (z_loop (fX11_end_B81 (fun (v1 : Int32) (v2 : Int32) (v3 : Int32) (v4 : Int32) (g : z_S) => rc (v1, v2, v3, (v4 + 1)) g)) zN (v1, v2, v3, v4, 0) g)
def fX11_end_B61 (k225 : Int32 → Int32 → z_S → Option (Int32 × z_S)) (rc : (Int32 × Int32 × Int32) → z_S → Option (Int32 × z_S)) (a : Int32 × Int32 × Int32) (g : z_S) : Option (Int32 × z_S) := match a with
  | (v1, v2, v3) =>
  if g.1 0 9 ≤ v3 then (k225 v1 v2 g) else (z_loop (fX11_end_B72 (fun (v1 : Int32) (v2 : Int32) (v3 : Int32) (g : z_S) => rc (v1, v2, (v3 + 1)) g)) zN (v1, v2, v3, 0) g)
def fX11_end_B230 (k282 : Int32 → Int32 → z_S → Option (Int32 × z_S)) (rc : (Int32 × Int32 × Int32 × Int32) → z_S → Option (Int32 × z_S)) (a : Int32 × Int32 × Int32 × Int32) (g : z_S) : Option (Int32 × z_S) := match a with
  | (v1, v2, v3, v4) =>
  if 4 < v4 then (k282 v2 v3 g) else (if v3 = 0 then (z_b (fX11_cell v1 v4 g) (fun r247 g247 => (z_g (z_in r247 245) (if g247.1 20 (r247).toNatClampNeg = 0 then (rc (v1, v2, 0, (v4 + 1)) g247) else (z_b (fX11_cell v1 v4 g247) (fun r261 g261 => (z_g (z_in r261 245) (if g261.2 15 (r261).toNatClampNeg ≤ 0 then (rc (v1, v2, 0, (v4 + 1)) g261) else (rc (v1, v2, 1, (v4 + 1)) g261))))))))) else (rc (v1, v2, 1, (v4 + 1)) g))
def fX11_end (v1 : Int32) (g : z_S) : Option (Int32 × z_S) :=
  z_b (fX11_in ((v1).toInt64) 0 ((g.1 0 9).toInt64) g) (fun r8 g8 => (if r8 = 0 then (some ((-1002), g8)) else (z_b (fX11_findReadings g8) (fun _ g19 => (z_loop (fX11_end_B24 (fun (v1 : Int32) (g : z_S) => z_loop (fX11_end_B61 (fun (v1 : Int32) (v2 : Int32) (g : z_S) => z_loop (fX11_end_B230 (fun (v2 : Int32) (v3 : Int32) (g : z_S) => if v3 = 0 then (some (0, g)) else (if v2 = 0 then (some (2, g)) else (some (1, g))))) zN (v1, v2, 0, 0) g)) zN (v1, 0, 0) g)) zN (v1, 0) g19)))))
def fX11_letterOf (v1 : Int32) (v2 : Int32) (v3 : Int32) (g : z_S) : Option (Int32 × z_S) :=
  z_g (z_in v1 17) (if g.1 2 (v1).toNatClampNeg ≤ v3 then (z_g (z_in v1 17) (z_g (z_in (((8 * v2) + v3) - (g.1 2 (v1).toNatClampNeg)) 136) (some (g.1 1 (((8 * v2) + v3) - (g.1 2 (v1).toNatClampNeg)).toNatClampNeg, g)))) else (z_g (z_in ((8 * v1) + v3) 136) (some (g.1 1 ((8 * v1) + v3).toNatClampNeg, g))))
def fX11_comesIn_B35 (rc : (Int32 × Int32 × Int32 × Int32 × Int32 × Int32) → z_S → Option (Int32 × z_S)) (a : Int32 × Int32 × Int32 × Int32 × Int32 × Int32) (g : z_S) : Option (Int32 × z_S) := match a with
  | (v1, v2, v3, v4, v5, v6) =>
  z_g (z_in v1 17) (if g.1 2 (v1).toNatClampNeg ≤ v6 then (z_g (v5 &&& 1 == v5) (some (v5, g))) else (if v5 = 0 then (z_g (v5 &&& 1 == v5) (some (v5, g))) else (z_g (z_in ((8 * v1) + v6) 136) (z_b (fX11_letterOf v2 v3 (v4 + v6) g) (fun r71 g71 => (if g.1 1 ((8 * v1) + v6).toNatClampNeg = r71 then (rc (v1, v2, v3, v4, 1, (v6 + 1)) g71) else (rc (v1, v2, v3, v4, 0, (v6 + 1)) g71)))))))
def fX11_comesIn (v1 : Int32) (v2 : Int32) (v3 : Int32) (v4 : Int32) (g : z_S) : Option (Int32 × z_S) :=
  z_g (z_in v1 17) (z_g (z_in v2 17) (z_g (z_in v3 17) (if (g.1 2 (v2).toNatClampNeg) + (g.1 2 (v3).toNatClampNeg) < v4 + (g.1 2 (v1).toNatClampNeg) then (z_loop fX11_comesIn_B35 zN (v1, v2, v3, v4, 0, 0) g) else (z_loop fX11_comesIn_B35 zN (v1, v2, v3, v4, 1, 0) g))))
def fX11_hides_J72 (rc : (Int32 × Int32 × Int32 × Int32) → z_S → Option (Int32 × z_S)) (v1 : Int32) (v2 : Int32) (v3 : Int32) (v4 : Int32) (s0 : Int32) (g : z_S) : Option (Int32 × z_S) :=
  if s0 = 0 then (z_b (fX11_comesIn v1 v2 v3 v4 g) (fun r85 g85 => (if r85 = 0 then (rc (v1, v2, v3, (v4 + 1)) g85) else (some (1, g85))))) else (rc (v1, v2, v3, (v4 + 1)) g)
def fX11_hides_J51 (rc : (Int32 × Int32 × Int32 × Int32) → z_S → Option (Int32 × z_S)) (v1 : Int32) (v2 : Int32) (v3 : Int32) (v4 : Int32) (g : z_S) : Option (Int32 × z_S) :=
  z_g (z_in v2 17) (if v4 = g.1 2 (v2).toNatClampNeg then (if v1 = v3 then (fX11_hides_J72 rc v1 v2 v3 v4 1 g) else (fX11_hides_J72 rc v1 v2 v3 v4 0 g)) else (fX11_hides_J72 rc v1 v2 v3 v4 0 g))
def fX11_hides_B23 (k99 : Int32 → Int32 → Int32 → z_S → Option (Int32 × z_S)) (rc : (Int32 × Int32 × Int32 × Int32) → z_S → Option (Int32 × z_S)) (a : Int32 × Int32 × Int32 × Int32) (g : z_S) : Option (Int32 × z_S) := match a with
  | (v1, v2, v3, v4) =>
  z_g (z_in v2 17) (z_g (z_in v3 17) (if (g.1 2 (v2).toNatClampNeg) + (g.1 2 (v3).toNatClampNeg) ≤ v4 then (k99 v1 v2 v3 g) else (if v4 = 0 then (if v1 = v2 then (fX11_hides_J72 rc v1 v2 v3 v4 1 g) else (fX11_hides_J51 rc v1 v2 v3 v4 g)) else (fX11_hides_J51 rc v1 v2 v3 v4 g))))
def fX11_hides_B12 (k105 : Int32 → Int32 → z_S → Option (Int32 × z_S)) (rc : (Int32 × Int32 × Int32) → z_S → Option (Int32 × z_S)) (a : Int32 × Int32 × Int32) (g : z_S) : Option (Int32 × z_S) := match a with
  | (v1, v2, v3) =>
  if g.1 0 1 ≤ v3 then (k105 v1 v2 g) else (z_loop (fX11_hides_B23 (fun (v1 : Int32) (v2 : Int32) (v3 : Int32) (g : z_S) => rc (v1, v2, (v3 + 1)) g)) zN (v1, v2, v3, 0) g)
def fX11_hides_B2 (rc : (Int32 × Int32) → z_S → Option (Int32 × z_S)) (a : Int32 × Int32) (g : z_S) : Option (Int32 × z_S) := match a with
  | (v1, v2) =>
  if g.1 0 1 ≤ v2 then (some (0, g)) else (z_loop (fX11_hides_B12 (fun (v1 : Int32) (v2 : Int32) (g : z_S) => rc (v1, (v2 + 1)) g)) zN (v1, v2, 0) g)
def fX11_hides (v1 : Int32) (g : z_S) : Option (Int32 × z_S) :=
  z_loop fX11_hides_B2 zN (v1, 0) g
def fX11_within_J164 (rc : (Int32 × Int32 × Int32 × Int32 × Int32 × Int32) → z_S → Option (Int32 × z_S)) (v1 : Int32) (v2 : Int32) (v3 : Int32) (v4 : Int32) (v6 : Int32) (s0 : Int32) (s1 : Int32) (s3 : Int32) (g : z_S) : Option (Int32 × z_S) :=
  z_g (z_in (s1 + s0) 136) (if s3 = g.1 1 (s1 + s0).toNatClampNeg then (rc (v1, v2, v3, v4, 1, (v6 + 1)) g) else (rc (v1, v2, v3, v4, 0, (v6 + 1)) g))
def fX11_within_B101 (k182 : Int32 → Int32 → Int32 → Int32 → Int32 → z_S → Option (Int32 × z_S)) (rc : (Int32 × Int32 × Int32 × Int32 × Int32 × Int32) → z_S → Option (Int32 × z_S)) (a : Int32 × Int32 × Int32 × Int32 × Int32 × Int32) (g : z_S) : Option (Int32 × z_S) := match a with
  | (v1, v2, v3, v4, v5, v6) =>
  z_g (z_in v3 17) (if g.1 2 (v3).toNatClampNeg ≤ v6 then (k182 v1 v2 v3 v4 v5 g) else (if v5 = 0 then (k182 v1 v2 v3 v4 v5 g) else (z_g (z_in ((8 * v3) + v6) 136) (if v1 = 0 then (fX11_within_J164 rc v1 v2 v3 v4 v6 v6 (8 * v4) (g.1 1 ((8 * v3) + v6).toNatClampNeg) g) else (z_g (z_in v4 17) (z_g (z_in v3 17) (fX11_within_J164 rc v1 v2 v3 v4 v6 (((g.1 2 (v4).toNatClampNeg) - (g.1 2 (v3).toNatClampNeg)) + v6) (8 * v4) (g.1 1 ((8 * v3) + v6).toNatClampNeg) g)))))))
def fX11_within_B55 (k196 : Int32 → Int32 → Int32 → z_S → Option (Int32 × z_S)) (rc : (Int32 × Int32 × Int32 × Int32) → z_S → Option (Int32 × z_S)) (a : Int32 × Int32 × Int32 × Int32) (g : z_S) : Option (Int32 × z_S) := match a with
  | (v1, v2, v3, v4) =>
  if g.1 0 1 ≤ v4 then (k196 v1 v2 v3 g) else (if 2 ≤ v1 then (k196 v1 v2 v3 g) else (if v3 = v4 then (z_loop (fX11_within_B101 (fun (v1 : Int32) (v2 : Int32) (v3 : Int32) (v4 : Int32) (v5 : Int32) (g : z_S) => z_b (fX11_one v5 g) (fun r185 g185 => (rc (v1, (v2 + r185), v3, (v4 + 1)) g185)))) zN (v1, v2, v3, v4, 0, 0) g) else (z_g (z_in v3 17) (z_g (z_in v4 17) (if g.1 2 (v4).toNatClampNeg < g.1 2 (v3).toNatClampNeg then (z_loop (fX11_within_B101 (fun (v1 : Int32) (v2 : Int32) (v3 : Int32) (v4 : Int32) (v5 : Int32) (g : z_S) => z_b (fX11_one v5 g) (fun r185 g185 => (rc (v1, (v2 + r185), v3, (v4 + 1)) g185)))) zN (v1, v2, v3, v4, 0, 0) g) else (z_loop (fX11_within_B101 (fun (v1 : Int32) (v2 : Int32) (v3 : Int32) (v4 : Int32) (v5 : Int32) (g : z_S) => z_b (fX11_one v5 g) (fun r185 g185 => (rc (v1, (v2 + r185), v3, (v4 + 1)) g185)))) zN (v1, v2, v3, v4, 1, 0) g))))))
def fX11_within_J47 (rc : (Int32 × Int32 × Int32) → z_S → Option (Int32 × z_S)) (v1 : Int32) (v3 : Int32) (s0 : Int32) (s1 : Int32) (g : z_S) : Option (Int32 × z_S) :=
  z_b (fX11_one s0 g) (fun r47 g47 => (z_loop (fX11_within_B55 (fun (v1 : Int32) (v2 : Int32) (v3 : Int32) (g : z_S) => rc (v1, v2, (v3 + 1)) g)) zN (v1, (s1 + r47), v3, 0) g47))
def fX11_within_B20 (rc : (Int32 × Int32 × Int32) → z_S → Option (Int32 × z_S)) (a : Int32 × Int32 × Int32) (g : z_S) : Option (Int32 × z_S) := match a with
  | (v1, v2, v3) =>
  if g.1 0 1 ≤ v3 then (some (v2, g)) else (if v1 = 2 then (z_b (fX11_hides v3 g) (fun r36 g36 => (if r36 = 0 then (fX11_within_J47 rc v1 v3 0 v2 g36) else (fX11_within_J47 rc v1 v3 1 v2 g36)))) else (fX11_within_J47 rc v1 v3 0 v2 g))
def fX11_within (v1 : Int32) (g : z_S) : Option (Int32 × z_S) :=
  z_b (fX11_in ((v1).toInt64) 0 2 g) (fun r6 g6 => (if r6 = 0 then (some ((-1002), g6)) else (z_loop fX11_within_B20 zN (v1, 0, 0) g6)))
def fX11_mark (v1 : Int32) (v2 : Int32) (g : z_S) : Option (Unit × z_S) :=
  z_g (z_in v1 17) (if v2 = g.1 2 (v1).toNatClampNeg then (z_s (z_wl g 0 35 ((g.2 0 35) ||| 1)) (fun g17 => (some ((), g17)))) else (if 8 ≤ v1 then (z_s (z_wl g 0 36 ((g.2 0 36) ||| (1 <<< (((8 * (v1 - 8)) + v2).toInt64 &&& 63)))) (fun g66 => (some ((), g66)))) else (z_s (z_wl g 0 35 ((g.2 0 35) ||| (1 <<< (((8 * v1) + v2).toInt64 &&& 63)))) (fun g43 => (some ((), g43))))))
def fX11_addState (v1 : Int32) (v2 : Int32) (v3 : Int32) (g : z_S) : Option (Unit × z_S) :=
  z_g (z_in (g.1 0 34) 2001) (z_s (z_wl g 21 (g.1 0 34).toNatClampNeg (g.2 0 35)) (fun g12 => (z_g (z_in (g12.1 0 34) 2001) (z_s (z_wl g12 22 (g12.1 0 34).toNatClampNeg (g12.2 0 36)) (fun g25 => (z_g (z_in (g25.1 0 34) 2001) (z_s (z_wi g25 23 (g25.1 0 34).toNatClampNeg v1) (fun g35 => (z_g (z_in (g35.1 0 34) 2001) (z_s (z_wi g35 24 (g35.1 0 34).toNatClampNeg v2) (fun g45 => (z_g (z_in (g45.1 0 34) 2001) (z_s (z_wi g45 25 (g45.1 0 34).toNatClampNeg v3) (fun g55 => (z_s (z_wi g55 0 34 ((g55.1 0 34) + 1)) (fun g63 => (some ((), g63))))))))))))))))))
def fX11_beginStates_B31 (k53 : Int32 → Int32 → z_S → Option (Unit × z_S)) (rc : (Int32 × Int32 × Int32) → z_S → Option (Unit × z_S)) (a : Int32 × Int32 × Int32) (g : z_S) : Option (Unit × z_S) := match a with
  | (v1, v2, v3) =>
  z_g (z_in v2 17) (if g.1 2 (v2).toNatClampNeg ≤ v3 then (k53 v1 v2 g) else (z_b (fX11_mark v2 v3 g) (fun _ g44 => (rc (v1, v2, (v3 + 1)) g44))))
def fX11_beginStates_B17 (k59 : z_S → Option (Unit × z_S)) (rc : (Int32 × Int32) → z_S → Option (Unit × z_S)) (a : Int32 × Int32) (g : z_S) : Option (Unit × z_S) := match a with
  | (v1, v2) =>
  if g.1 0 1 ≤ v2 then (k59 g) else (if v1 = 0 then (k59 g) else (z_loop (fX11_beginStates_B31 (fun (v1 : Int32) (v2 : Int32) (g : z_S) => rc (v1, (v2 + 1)) g)) zN (v1, v2, 1) g))
def fX11_beginStates (v1 : Int32) (g : z_S) : Option (Unit × z_S) :=
  z_s (z_wi g 0 34 0) (fun g2 => (z_s (z_wl g2 0 35 1) (fun g7 => (z_s (z_wl g7 0 36 0) (fun g12 => (z_loop (fX11_beginStates_B17 (fun (g : z_S) => z_b (fX11_addState (-1) (-1) 0 g) (fun _ g63 => (some ((), g63))))) zN (v1, 0) g12))))))
def fX11_isMarked_J21 (v2 : Int32) (v3 : Int32) (s0 : Int64) (g : z_S) : Option (Int32 × z_S) :=
  if (s0 >>> (((8 * (v2 &&& 7)) + v3).toInt64 &&& 63)) &&& 1 = 1 then (some (1, g)) else (some (0, g))
def fX11_isMarked (v1 : Int32) (v2 : Int32) (v3 : Int32) (g : z_S) : Option (Int32 × z_S) :=
  if 8 ≤ v2 then (z_g (z_in v1 2001) (fX11_isMarked_J21 v2 v3 (g.2 22 (v1).toNatClampNeg) g)) else (z_g (z_in v1 2001) (fX11_isMarked_J21 v2 v3 (g.2 21 (v1).toNatClampNeg) g))
def fX11_goOn_B69 (k126 : Int32 → Int32 → Int32 → Int32 → z_S → Option (Unit × z_S)) (rc : (Int32 × Int32 × Int32 × Int32 × Int32) → z_S → Option (Unit × z_S)) (a : Int32 × Int32 × Int32 × Int32 × Int32) (g : z_S) : Option (Unit × z_S) := match a with
  | (v1, v2, v3, v4, v5) =>
  z_g (z_in v4 17) (if g.1 2 (v4).toNatClampNeg ≤ v5 then (k126 v1 v2 v3 v4 g) else (z_b (fX11_isMarked v1 v4 v5 g) (fun r87 g87 => (if r87 = 0 then (rc (v1, v2, v3, v4, (v5 + 1)) g87) else (z_g (z_in ((8 * v4) + v5) 136) (if g87.1 1 ((8 * v4) + v5).toNatClampNeg = v2 then (z_b (fX11_mark v4 (v5 + 1) g87) (fun _ g117 => (rc (v1, v2, v3, v4, (v5 + 1)) g117))) else (rc (v1, v2, v3, v4, (v5 + 1)) g87)))))))
def fX11_goOn_B32 (rc : (Int32 × Int32 × Int32 × Int32) → z_S → Option (Unit × z_S)) (a : Int32 × Int32 × Int32 × Int32) (g : z_S) : Option (Unit × z_S) := match a with
  | (v1, v2, v3, v4) =>
  if g.1 0 1 ≤ v4 then (some ((), g)) else (if v3 = 0 then (z_loop (fX11_goOn_B69 (fun (v1 : Int32) (v2 : Int32) (v3 : Int32) (v4 : Int32) (g : z_S) => rc (v1, v2, v3, (v4 + 1)) g)) zN (v1, v2, v3, v4, 1) g) else (z_g (z_in (8 * v4) 136) (if g.1 1 (8 * v4).toNatClampNeg = v2 then (z_b (fX11_mark v4 1 g) (fun _ g63 => (z_loop (fX11_goOn_B69 (fun (v1 : Int32) (v2 : Int32) (v3 : Int32) (v4 : Int32) (g : z_S) => rc (v1, v2, v3, (v4 + 1)) g)) zN (v1, v2, v3, v4, 1) g63))) else (z_loop (fX11_goOn_B69 (fun (v1 : Int32) (v2 : Int32) (v3 : Int32) (v4 : Int32) (g : z_S) => rc (v1, v2, v3, (v4 + 1)) g)) zN (v1, v2, v3, v4, 1) g))))
def fX11_goOn (v1 : Int32) (v2 : Int32) (g : z_S) : Option (Unit × z_S) :=
  z_s (z_wl g 0 35 0) (fun g2 => (z_s (z_wl g2 0 36 0) (fun g7 => (z_g (z_in v1 2001) (if (g7.2 21 (v1).toNatClampNeg) &&& 1 = 1 then (z_loop fX11_goOn_B32 zN (v1, v2, 1, 0) g7) else (z_loop fX11_goOn_B32 zN (v1, v2, 0, 0) g7))))))
def fX11_layRow_B34 (rc : (Int32 × Int32) → z_S → Option (Unit × z_S)) (a : Int32 × Int32) (g : z_S) : Option (Unit × z_S) := match a with
  | (v3, v4) =>
  if v4 < 0 then (some ((), g)) else (z_g (z_in v3 2001) (z_g (z_in v4 12) (z_s (z_wi g 26 (v4).toNatClampNeg (g.1 24 (v3).toNatClampNeg)) (fun g51 => (z_g (z_in v3 2001) (rc ((g51.1 23 (v3).toNatClampNeg), (v4 + (-1))) g51))))))
def fX11_layRow (v1 : Int32) (v2 : Int32) (g : z_S) : Option (Unit × z_S) :=
  z_g (z_in v1 2001) (z_s (z_wi g 0 38 ((g.1 25 (v1).toNatClampNeg) + 1)) (fun g9 => (z_g (z_in ((g9.1 0 38) - 1) 12) (z_s (z_wi g9 26 ((g9.1 0 38) - 1).toNatClampNeg v2) (fun g23 => (z_loop fX11_layRow_B34 zN (v1, ((g23.1 0 38) - 2)) g23))))))
def fX11_findState_B2 (rc : Int32 → z_S → Option (Int32 × z_S)) (v1 : Int32) (g : z_S) : Option (Int32 × z_S) :=
  if g.1 0 34 ≤ v1 then (some ((-1), g)) else (z_g (z_in v1 2001) (if g.2 21 (v1).toNatClampNeg = g.2 0 35 then (z_g (z_in v1 2001) (if g.2 22 (v1).toNatClampNeg = g.2 0 36 then (some (v1, g)) else (rc (v1 + 1) g))) else (rc (v1 + 1) g)))
def fX11_findState (g : z_S) : Option (Int32 × z_S) :=
  z_loop fX11_findState_B2 zN 0 g
def fX11_look_J141 (rc : (Int32 × Int32 × Int32) → z_S → Option (Int32 × z_S)) (v1 : Int32) (v2 : Int32) (v3 : Int32) (v4 : Int32) (g : z_S) : Option (Int32 × z_S) :=
  if v4 = 0 then (z_b (fX11_findState g) (fun r147 g147 => (if 0 ≤ r147 then (rc (v1, v2, (v3 + 1)) g147) else (if g147.1 0 34 = 2000 then (some ((-1005), g147)) else (z_g (z_in v2 2001) (z_b (fX11_addState v2 v3 ((g147.1 25 (v2).toNatClampNeg) + 1) g147) (fun _ g178 => (rc (v1, v2, (v3 + 1)) g178)))))))) else (rc (v1, v2, (v3 + 1)) g)
def fX11_look_J98 (rc : (Int32 × Int32 × Int32) → z_S → Option (Int32 × z_S)) (k122 : Int32 → Int32 → z_S → Option (Int32 × z_S)) (k130 : Int32 → Int32 → z_S → Option (Int32 × z_S)) (v1 : Int32) (v2 : Int32) (v3 : Int32) (s0 : Int32) (g : z_S) : Option (Int32 × z_S) :=
  if v1 = 0 then (if s0 = 0 then (fX11_look_J141 rc v1 v2 v3 s0 g) else (k130 v2 v3 g)) else (if g.2 0 35 = 1 then (if g.2 0 36 = 0 then (k122 v2 v3 g) else (fX11_look_J141 rc v1 v2 v3 s0 g)) else (fX11_look_J141 rc v1 v2 v3 s0 g))
def fX11_look_B61 (k122 : Int32 → Int32 → z_S → Option (Int32 × z_S)) (k130 : Int32 → Int32 → z_S → Option (Int32 × z_S)) (k187 : Int32 → Int32 → z_S → Option (Int32 × z_S)) (rc : (Int32 × Int32 × Int32) → z_S → Option (Int32 × z_S)) (a : Int32 × Int32 × Int32) (g : z_S) : Option (Int32 × z_S) := match a with
  | (v1, v2, v3) =>
  if g.1 0 0 ≤ v3 then (k187 v1 v2 g) else (z_b (fX11_goOn v2 v3 g) (fun _ g72 => (if g72.2 0 35 = 0 then (if g72.2 0 36 = 0 then (fX11_look_J98 rc k122 k130 v1 v2 v3 1 g72) else (fX11_look_J98 rc k122 k130 v1 v2 v3 0 g72)) else (fX11_look_J98 rc k122 k130 v1 v2 v3 0 g72))))
def fX11_look_B40 (k122 : Int32 → Int32 → z_S → Option (Int32 × z_S)) (k130 : Int32 → Int32 → z_S → Option (Int32 × z_S)) (rc : (Int32 × Int32) → z_S → Option (Int32 × z_S)) (a : Int32 × Int32) (g : z_S) : Option (Int32 × z_S) := match a with
  | (v1, v2) =>
  if g.1 0 34 ≤ v2 then (some ((-1), g)) else (z_g (z_in v2 2001) (if 12 ≤ g.1 25 (v2).toNatClampNeg then (some ((-1), g)) else (z_loop (fX11_look_B61 (fun (v2 : Int32) (v3 : Int32) (g : z_S) => k122 v2 v3 g) (fun (v2 : Int32) (v3 : Int32) (g : z_S) => k130 v2 v3 g) (fun (v1 : Int32) (v2 : Int32) (g : z_S) => rc (v1, (v2 + 1)) g)) zN (v1, v2, 0) g)))
def fX11_look_J130 (v2 : Int32) (v3 : Int32) (g : z_S) : Option (Int32 × z_S) :=
  z_b (fX11_layRow v2 v3 g) (fun _ g133 => (some (g133.1 0 38, g133)))
def fX11_look (v1 : Int32) (g : z_S) : Option (Int32 × z_S) :=
  z_b (fX11_beginStates 1 g) (fun _ g2 => (z_s (z_wi g2 0 38 0) (fun g7 => (if v1 = 0 then (z_loop (fX11_look_B40 (fun (v2 : Int32) (v3 : Int32) (g : z_S) => fX11_look_J130 v2 v3 g) (fun (v2 : Int32) (v3 : Int32) (g : z_S) => fX11_look_J130 v2 v3 g)) zN (v1, 0) g7) else (z_g (z_in 0 2001) (if g7.2 21 (0 : Int32).toNatClampNeg = 1 then (z_g (z_in 0 2001) (if g7.2 22 (0 : Int32).toNatClampNeg = 0 then (some (0, g7)) else (z_loop (fX11_look_B40 (fun (v2 : Int32) (v3 : Int32) (g : z_S) => fX11_look_J130 v2 v3 g) (fun (v2 : Int32) (v3 : Int32) (g : z_S) => fX11_look_J130 v2 v3 g)) zN (v1, 0) g7))) else (z_loop (fX11_look_B40 (fun (v2 : Int32) (v3 : Int32) (g : z_S) => fX11_look_J130 v2 v3 g) (fun (v2 : Int32) (v3 : Int32) (g : z_S) => fX11_look_J130 v2 v3 g)) zN (v1, 0) g7)))))))
def fX11_shortest (v1 : Int32) (v2 : Int32) (g : z_S) : Option (Int32 × z_S) :=
  if g.1 0 1 = 0 then (some ((-1003), g)) else (z_b (fX11_look v1 g) (fun r13 g13 => (if r13 < 0 then (some (r13, g13)) else (if v2 = (-1) then (some (r13, g13)) else (z_b (fX11_in ((v2).toInt64) 0 ((r13 - 1).toInt64) g13) (fun r37 g37 => (if r37 = 0 then (some ((-1), g37)) else (z_g (z_in v2 12) (some (g37.1 26 (v2).toNatClampNeg, g37))))))))))
def fX11_key (v1 : Int32) (g : z_S) : Option (Int32 × z_S) :=
  z_b (fX11_shortest 1 v1 g) (fun r3 g3 => (some (r3, g3)))
def fX11_strange (v1 : Int32) (g : z_S) : Option (Int32 × z_S) :=
  z_b (fX11_shortest 0 v1 g) (fun r3 g3 => (some (r3, g3)))
def fX11_ways_B35 (k82 : Int32 → Int32 → Int64 → z_S → Option (Int64 × z_S)) (rc : (Int32 × Int32 × Int64 × Int32) → z_S → Option (Int64 × z_S)) (a : Int32 × Int32 × Int64 × Int32) (g : z_S) : Option (Int64 × z_S) := match a with
  | (v1, v2, v3, v5) =>
  if g.1 0 1 ≤ v5 then (k82 v1 v2 v3 g) else (z_g (z_in v5 17) (if v2 < g.1 2 (v5).toNatClampNeg then (rc (v1, v2, (v3 + 0), (v5 + 1)) g) else (z_g (z_in v5 17) (z_g (z_in (v2 - (g.1 2 (v5).toNatClampNeg)) 41) (rc (v1, v2, (v3 + (g.2 27 (v2 - (g.1 2 (v5).toNatClampNeg)).toNatClampNeg)), (v5 + 1)) g)))))
def fX11_ways_B25 (k109 : Int32 → z_S → Option (Int64 × z_S)) (rc : (Int32 × Int32) → z_S → Option (Int64 × z_S)) (a : Int32 × Int32) (g : z_S) : Option (Int64 × z_S) := match a with
  | (v1, v2) =>
  if v1 < v2 then (k109 v1 g) else (z_loop (fX11_ways_B35 (fun (v1 : Int32) (v2 : Int32) (v3 : Int64) (g : z_S) => if v3 ≤ 2000000000000000 then (z_g (z_in v2 41) (z_s (z_wl g 27 (v2).toNatClampNeg v3) (fun g102 => (rc (v1, (v2 + 1)) g102)))) else (z_g (z_in v2 41) (z_s (z_wl g 27 (v2).toNatClampNeg 2000000000000000) (fun g102 => (rc (v1, (v2 + 1)) g102)))))) zN (v1, v2, 0, 0) g)
def fX11_ways (v1 : Int32) (g : z_S) : Option (Int64 × z_S) :=
  z_b (fX11_in ((v1).toInt64) 0 40 g) (fun r6 g6 => (if r6 = 0 then (some ((-1002), g6)) else (z_g (z_in 0 41) (z_s (z_wl g6 27 (0 : Int32).toNatClampNeg 1) (fun g22 => (z_loop (fX11_ways_B25 (fun (v1 : Int32) (g : z_S) => z_g (z_in v1 41) (if g.2 27 (v1).toNatClampNeg ≤ 1000000000000000 then (z_g (z_in v1 41) (some (g.2 27 (v1).toNatClampNeg, g))) else (some ((-1005), g))))) zN (v1, 1) g22))))))
def fX11_rows_J44 (rc : (Int32 × Int32) → z_S → Option (Int64 × z_S)) (v1 : Int32) (v2 : Int32) (s0 : Int32) (s1 : Int32) (g : z_S) : Option (Int64 × z_S) :=
  z_b (fX11_one s0 g) (fun r44 g44 => (z_g (z_in s1 2001) (z_s (z_wl g44 28 (s1).toNatClampNeg ((r44).toInt64)) (fun g48 => (rc (v1, (v2 + 1)) g48)))))
def fX11_rows_B23 (k55 : Int32 → z_S → Option (Int64 × z_S)) (rc : (Int32 × Int32) → z_S → Option (Int64 × z_S)) (a : Int32 × Int32) (g : z_S) : Option (Int64 × z_S) := match a with
  | (v1, v2) =>
  if 2000 < v2 then (k55 v1 g) else (if v2 = 0 then (fX11_rows_J44 rc v1 v2 1 v2 g) else (fX11_rows_J44 rc v1 v2 0 v2 g))
def fX11_rows_B70 (k92 : Int32 → Int32 → Int32 → z_S → Option (Int64 × z_S)) (rc : (Int32 × Int32 × Int32 × Int32) → z_S → Option (Int64 × z_S)) (a : Int32 × Int32 × Int32 × Int32) (g : z_S) : Option (Int64 × z_S) := match a with
  | (v1, v2, v3, v4) =>
  if 2000 < v4 then (k92 v1 v2 v3 g) else (z_g (z_in v4 2001) (z_s (z_wl g 29 (v4).toNatClampNeg 0) (fun g85 => (rc (v1, v2, v3, (v4 + 1)) g85))))
def fX11_rows_J193 (rc : (Int32 × Int32 × Int32 × Int32 × Int32) → z_S → Option (Int64 × z_S)) (v1 : Int32) (v2 : Int32) (v3 : Int32) (v4 : Int32) (v5 : Int32) (v6 : Int32) (g : z_S) : Option (Int64 × z_S) :=
  z_g (z_in v6 2001) (z_g (z_in v4 2001) (z_g (z_in v6 2001) (z_s (z_wl g 29 (v6).toNatClampNeg ((g.2 29 (v6).toNatClampNeg) + (g.2 28 (v4).toNatClampNeg))) (fun g214 => (rc (v1, v2, v3, v4, (v5 + 1)) g214)))))
def fX11_rows_J151 (rc : (Int32 × Int32 × Int32 × Int32 × Int32) → z_S → Option (Int64 × z_S)) (v1 : Int32) (v2 : Int32) (v3 : Int32) (v4 : Int32) (v5 : Int32) (g : z_S) : Option (Int64 × z_S) :=
  z_b (fX11_findState g) (fun r152 g152 => (if 0 ≤ r152 then (fX11_rows_J193 rc v1 v2 v3 v4 v5 r152 g152) else (if g152.1 0 34 = 2000 then (some ((-1005), g152)) else (z_b (fX11_addState v4 v5 (v2 + 1) g152) (fun _ g190 => (fX11_rows_J193 rc v1 v2 v3 v4 v5 (g152.1 0 34) g190))))))
def fX11_rows_B104 (k221 : Int32 → Int32 → Int32 → Int32 → z_S → Option (Int64 × z_S)) (rc : (Int32 × Int32 × Int32 × Int32 × Int32) → z_S → Option (Int64 × z_S)) (a : Int32 × Int32 × Int32 × Int32 × Int32) (g : z_S) : Option (Int64 × z_S) := match a with
  | (v1, v2, v3, v4, v5) =>
  if g.1 0 0 ≤ v5 then (k221 v1 v2 v3 v4 g) else (z_g (z_in v4 2001) (if g.2 28 (v4).toNatClampNeg ≤ 0 then (k221 v1 v2 v3 v4 g) else (z_b (fX11_goOn v4 v5 g) (fun _ g130 => (if g130.2 0 35 = 0 then (if g130.2 0 36 = 0 then (rc (v1, v2, v3, v4, (v5 + 1)) g130) else (fX11_rows_J151 rc v1 v2 v3 v4 v5 g130)) else (fX11_rows_J151 rc v1 v2 v3 v4 v5 g130))))))
def fX11_rows_B95 (k227 : Int32 → Int32 → z_S → Option (Int64 × z_S)) (rc : (Int32 × Int32 × Int32 × Int32) → z_S → Option (Int64 × z_S)) (a : Int32 × Int32 × Int32 × Int32) (g : z_S) : Option (Int64 × z_S) := match a with
  | (v1, v2, v3, v4) =>
  if v3 ≤ v4 then (k227 v1 v2 g) else (z_loop (fX11_rows_B104 (fun (v1 : Int32) (v2 : Int32) (v3 : Int32) (v4 : Int32) (g : z_S) => rc (v1, v2, v3, (v4 + 1)) g)) zN (v1, v2, v3, v4, 0) g)
def fX11_rows_B230 (k258 : Int32 → Int32 → z_S → Option (Int64 × z_S)) (rc : (Int32 × Int32 × Int32) → z_S → Option (Int64 × z_S)) (a : Int32 × Int32 × Int32) (g : z_S) : Option (Int64 × z_S) := match a with
  | (v1, v2, v4) =>
  if 2000 < v4 then (k258 v1 v2 g) else (z_g (z_in v4 2001) (z_g (z_in v4 2001) (z_s (z_wl g 28 (v4).toNatClampNeg (g.2 29 (v4).toNatClampNeg)) (fun g251 => (rc (v1, v2, (v4 + 1)) g251)))))
def fX11_rows_B57 (k264 : z_S → Option (Int64 × z_S)) (rc : (Int32 × Int32) → z_S → Option (Int64 × z_S)) (a : Int32 × Int32) (g : z_S) : Option (Int64 × z_S) := match a with
  | (v1, v2) =>
  if v1 ≤ v2 then (k264 g) else (z_loop (fX11_rows_B70 (fun (v1 : Int32) (v2 : Int32) (v3 : Int32) (g : z_S) => z_loop (fX11_rows_B95 (fun (v1 : Int32) (v2 : Int32) (g : z_S) => z_loop (fX11_rows_B230 (fun (v1 : Int32) (v2 : Int32) (g : z_S) => rc (v1, (v2 + 1)) g)) zN (v1, v2, 0) g)) zN (v1, v2, v3, 0) g)) zN (v1, v2, (g.1 0 34), 0) g)
def fX11_rows_B269 (k312 : Int64 → z_S → Option (Int64 × z_S)) (rc : (Int64 × Int32) → z_S → Option (Int64 × z_S)) (a : Int64 × Int32) (g : z_S) : Option (Int64 × z_S) := match a with
  | (v2, v4) =>
  if g.1 0 34 ≤ v4 then (k312 v2 g) else (z_g (z_in v4 2001) (if (g.2 21 (v4).toNatClampNeg) &&& 1 = 1 then (z_g (z_in v4 2001) (rc ((v2 + (g.2 28 (v4).toNatClampNeg)), (v4 + 1)) g)) else (rc ((v2 + 0), (v4 + 1)) g)))
def fX11_rows (v1 : Int32) (g : z_S) : Option (Int64 × z_S) :=
  z_b (fX11_in ((v1).toInt64) 0 20 g) (fun r6 g6 => (if r6 = 0 then (some ((-1002), g6)) else (z_b (fX11_beginStates 0 g6) (fun _ g18 => (z_loop (fX11_rows_B23 (fun (v1 : Int32) (g : z_S) => z_loop (fX11_rows_B57 (fun (g : z_S) => z_loop (fX11_rows_B269 (fun (v2 : Int64) (g : z_S) => if v2 ≤ 1000000000000000 then (some (v2, g)) else (some ((-1005), g)))) zN (0, 0) g)) zN (v1, 0) g)) zN (v1, 0) g18)))))
def fX11_price (v1 : Int32) (v2 : Int32) (g : z_S) : Option (Int32 × z_S) :=
  z_b (fX11_in ((v1).toInt64) 0 2 g) (fun r6 g6 => (if r6 = 0 then (some ((-1002), g6)) else (z_b (fX11_in ((v2).toInt64) 0 99 g6) (fun r18 g18 => (if r18 = 0 then (some ((-1002), g18)) else (z_g (z_in v1 3) (z_g (z_in v1 3) (z_s (z_wi g18 6 (v1).toNatClampNeg v2) (fun g41 => (some (g18.1 6 (v1).toNatClampNeg, g41)))))))))))
def fX11_least (v0 : Int64) (v2 : Int64) (g : z_S) : Option (Int64 × z_S) :=
  if v2 ≤ v0 then (some (v2, g)) else (some (v0, g))
def fX11_mistake (v1 : Int32) (g : z_S) : Option (Int64 × z_S) :=
  z_g (z_in v1 3) (some ((((g.1 6 (v1).toNatClampNeg).toInt64) * 100000) + 1, g))
def fX11_settle_B25 (k75 : Int32 → Int32 → Int64 → z_S → Option (Unit × z_S)) (rc : (Int32 × Int32 × Int64 × Int32) → z_S → Option (Unit × z_S)) (a : Int32 × Int32 × Int64 × Int32) (g : z_S) : Option (Unit × z_S) := match a with
  | (v1, v2, v3, v5) =>
  if 4 < v5 then (k75 v1 v2 v3 g) else (z_b (fX11_mayFollow v5 v2 g) (fun r35 g35 => (if r35 = 0 then (rc (v1, v2, v3, (v5 + 1)) g35) else (z_g (z_in v5 5) (z_g (z_in v2 17) (z_b (fX11_least v3 ((g35.2 30 (v5).toNatClampNeg) + (((g35.1 3 (v2).toNatClampNeg).toInt64) * 100000)) g35) (fun r61 g61 => (rc (v1, v2, r61, (v5 + 1)) g61))))))))
def fX11_settle_B100 (k218 : Int32 → Int32 → z_S → Option (Unit × z_S)) (rc : (Int32 × Int32 × Int32) → z_S → Option (Unit × z_S)) (a : Int32 × Int32 × Int32) (g : z_S) : Option (Unit × z_S) := match a with
  | (v1, v2, v5) =>
  z_g (z_in v2 17) (if g.1 2 (v2).toNatClampNeg ≤ v5 then (k218 v1 v2 g) else (z_g (z_in ((8 * v2) + v5) 136) (z_b (fX11_mistake 1 g) (fun r125 g125 => (z_g (z_in v2 17) (if g125.1 2 (v2).toNatClampNeg ≤ v5 + 1 then (z_g (z_in v2 17) (z_g (z_in (g125.1 4 (v2).toNatClampNeg) 5) (if g125.2 30 (g125.1 4 (v2).toNatClampNeg).toNatClampNeg ≤ (g.2 31 ((8 * v2) + v5).toNatClampNeg) + r125 then (rc (v1, v2, (v5 + 1)) g125) else (z_g (z_in v2 17) (z_g (z_in (g125.1 4 (v2).toNatClampNeg) 5) (z_s (z_wl g125 30 (g125.1 4 (v2).toNatClampNeg).toNatClampNeg ((g.2 31 ((8 * v2) + v5).toNatClampNeg) + r125)) (fun g209 => (rc (1, v2, (v5 + 1)) g209)))))))) else (z_g (z_in (((8 * v2) + v5) + 1) 136) (z_b (fX11_least (g125.2 31 (((8 * v2) + v5) + 1).toNatClampNeg) ((g.2 31 ((8 * v2) + v5).toNatClampNeg) + r125) g125) (fun r173 g173 => (z_g (z_in (((8 * v2) + v5) + 1) 136) (z_s (z_wl g173 31 (((8 * v2) + v5) + 1).toNatClampNeg r173) (fun g176 => (rc (v1, v2, (v5 + 1)) g176)))))))))))))
def fX11_settle_B10 (k224 : Int32 → z_S → Option (Unit × z_S)) (rc : (Int32 × Int32) → z_S → Option (Unit × z_S)) (a : Int32 × Int32) (g : z_S) : Option (Unit × z_S) := match a with
  | (v1, v2) =>
  if g.1 0 1 ≤ v2 then (k224 v1 g) else (z_loop (fX11_settle_B25 (fun (v1 : Int32) (v2 : Int32) (v3 : Int64) (g : z_S) => z_g (z_in (8 * v2) 136) (z_b (fX11_least (g.2 31 (8 * v2).toNatClampNeg) v3 g) (fun r93 g93 => (z_g (z_in (8 * v2) 136) (z_s (z_wl g93 31 (8 * v2).toNatClampNeg r93) (fun g96 => (z_loop (fX11_settle_B100 (fun (v1 : Int32) (v2 : Int32) (g : z_S) => rc (v1, (v2 + 1)) g)) zN (v1, v2, 0) g96)))))))) zN (v1, v2, 1000000000000, 0) g)
def fX11_settle_B2 (rc : Int32 → z_S → Option (Unit × z_S)) (v1 : Int32) (g : z_S) : Option (Unit × z_S) :=
  if v1 = 0 then (some ((), g)) else (z_loop (fX11_settle_B10 (fun (v1 : Int32) (g : z_S) => rc v1 g)) zN (0, 0) g)
def fX11_settle (g : z_S) : Option (Unit × z_S) :=
  z_loop fX11_settle_B2 zN 1 g
def fX11_takeDrafted_B2 (k31 : Int32 → z_S → Option (Unit × z_S)) (rc : (Int32 × Int32) → z_S → Option (Unit × z_S)) (a : Int32 × Int32) (g : z_S) : Option (Unit × z_S) := match a with
  | (v1, v2) =>
  if 4 < v2 then (k31 v1 g) else (z_g (z_in v2 5) (z_b (fX11_mistake 2 g) (fun r20 g20 => (z_g (z_in v2 5) (z_s (z_wl g20 32 (v2).toNatClampNeg ((g.2 30 (v2).toNatClampNeg) + r20)) (fun g24 => (rc (v1, (v2 + 1)) g24)))))))
def fX11_takeDrafted_B33 (k64 : Int32 → z_S → Option (Unit × z_S)) (rc : (Int32 × Int32) → z_S → Option (Unit × z_S)) (a : Int32 × Int32) (g : z_S) : Option (Unit × z_S) := match a with
  | (v1, v2) =>
  if 136 ≤ v2 then (k64 v1 g) else (z_g (z_in v2 136) (z_b (fX11_mistake 2 g) (fun r53 g53 => (z_g (z_in v2 136) (z_s (z_wl g53 33 (v2).toNatClampNeg ((g.2 31 (v2).toNatClampNeg) + r53)) (fun g57 => (rc (v1, (v2 + 1)) g57)))))))
def fX11_takeDrafted_J121 (rc : (Int32 × Int32 × Int32) → z_S → Option (Unit × z_S)) (v1 : Int32) (v2 : Int32) (v3 : Int32) (s0 : Int64) (s1 : Int64) (g : z_S) : Option (Unit × z_S) :=
  z_g (z_in v2 17) (if g.1 2 (v2).toNatClampNeg ≤ v3 + 1 then (z_g (z_in v2 17) (z_g (z_in v2 17) (z_g (z_in (g.1 4 (v2).toNatClampNeg) 5) (z_b (fX11_least (g.2 32 (g.1 4 (v2).toNatClampNeg).toNatClampNeg) (s1 + s0) g) (fun r193 g193 => (z_g (z_in (g.1 4 (v2).toNatClampNeg) 5) (z_s (z_wl g193 32 (g.1 4 (v2).toNatClampNeg).toNatClampNeg r193) (fun g196 => (rc (v1, v2, (v3 + 1)) g196))))))))) else (z_g (z_in (((8 * v2) + v3) + 1) 136) (z_b (fX11_least (g.2 33 (((8 * v2) + v3) + 1).toNatClampNeg) (s1 + s0) g) (fun r163 g163 => (z_g (z_in (((8 * v2) + v3) + 1) 136) (z_s (z_wl g163 33 (((8 * v2) + v3) + 1).toNatClampNeg r163) (fun g166 => (rc (v1, v2, (v3 + 1)) g166))))))))
def fX11_takeDrafted_B76 (k203 : Int32 → Int32 → z_S → Option (Unit × z_S)) (rc : (Int32 × Int32 × Int32) → z_S → Option (Unit × z_S)) (a : Int32 × Int32 × Int32) (g : z_S) : Option (Unit × z_S) := match a with
  | (v1, v2, v3) =>
  z_g (z_in v2 17) (if g.1 2 (v2).toNatClampNeg ≤ v3 then (k203 v1 v2 g) else (z_g (z_in ((8 * v2) + v3) 136) (z_g (z_in ((8 * v2) + v3) 136) (if g.1 1 ((8 * v2) + v3).toNatClampNeg = v1 then (fX11_takeDrafted_J121 rc v1 v2 v3 0 (g.2 31 ((8 * v2) + v3).toNatClampNeg) g) else (z_b (fX11_mistake 0 g) (fun r118 g118 => (fX11_takeDrafted_J121 rc v1 v2 v3 r118 (g.2 31 ((8 * v2) + v3).toNatClampNeg) g118)))))))
def fX11_takeDrafted_B66 (k209 : z_S → Option (Unit × z_S)) (rc : (Int32 × Int32) → z_S → Option (Unit × z_S)) (a : Int32 × Int32) (g : z_S) : Option (Unit × z_S) := match a with
  | (v1, v2) =>
  if g.1 0 1 ≤ v2 then (k209 g) else (z_loop (fX11_takeDrafted_B76 (fun (v1 : Int32) (v2 : Int32) (g : z_S) => rc (v1, (v2 + 1)) g)) zN (v1, v2, 0) g)
def fX11_takeDrafted_B211 (k234 : z_S → Option (Unit × z_S)) (rc : Int32 → z_S → Option (Unit × z_S)) (v2 : Int32) (g : z_S) : Option (Unit × z_S) :=
  if 4 < v2 then (k234 g) else (z_g (z_in v2 5) (z_g (z_in v2 5) (z_s (z_wl g 30 (v2).toNatClampNeg (g.2 32 (v2).toNatClampNeg)) (fun g227 => (rc (v2 + 1) g227)))))
def fX11_takeDrafted_B236 (rc : Int32 → z_S → Option (Unit × z_S)) (v2 : Int32) (g : z_S) : Option (Unit × z_S) :=
  if 136 ≤ v2 then (some ((), g)) else (z_g (z_in v2 136) (z_g (z_in v2 136) (z_s (z_wl g 31 (v2).toNatClampNeg (g.2 33 (v2).toNatClampNeg)) (fun g254 => (rc (v2 + 1) g254)))))
def fX11_takeDrafted (v1 : Int32) (g : z_S) : Option (Unit × z_S) :=
  z_loop (fX11_takeDrafted_B2 (fun (v1 : Int32) (g : z_S) => z_loop (fX11_takeDrafted_B33 (fun (v1 : Int32) (g : z_S) => z_loop (fX11_takeDrafted_B66 (fun (g : z_S) => z_loop (fX11_takeDrafted_B211 (fun (g : z_S) => z_loop fX11_takeDrafted_B236 zN 0 g)) zN 0 g)) zN (v1, 0) g)) zN (v1, 0) g)) zN (v1, 0) g
def fX11_patched_B16 (k45 : Int32 → z_S → Option (Int32 × z_S)) (rc : (Int32 × Int32) → z_S → Option (Int32 × z_S)) (a : Int32 × Int32) (g : z_S) : Option (Int32 × z_S) := match a with
  | (v1, v2) =>
  if 4 < v2 then (k45 v1 g) else (if v2 = 4 then (z_g (z_in v2 5) (z_s (z_wl g 30 (v2).toNatClampNeg 0) (fun g38 => (rc (v1, (v2 + 1)) g38)))) else (z_g (z_in v2 5) (z_s (z_wl g 30 (v2).toNatClampNeg 1000000000000) (fun g38 => (rc (v1, (v2 + 1)) g38)))))
def fX11_patched_B47 (k69 : Int32 → z_S → Option (Int32 × z_S)) (rc : (Int32 × Int32) → z_S → Option (Int32 × z_S)) (a : Int32 × Int32) (g : z_S) : Option (Int32 × z_S) := match a with
  | (v1, v2) =>
  if 136 ≤ v2 then (k69 v1 g) else (z_g (z_in v2 136) (z_s (z_wl g 31 (v2).toNatClampNeg 1000000000000) (fun g62 => (rc (v1, (v2 + 1)) g62))))
def fX11_patched_B75 (k103 : Int32 → z_S → Option (Int32 × z_S)) (rc : (Int32 × Int32) → z_S → Option (Int32 × z_S)) (a : Int32 × Int32) (g : z_S) : Option (Int32 × z_S) := match a with
  | (v1, v2) =>
  if g.1 0 9 ≤ v2 then (k103 v1 g) else (z_g (z_in v2 48) (z_b (fX11_takeDrafted (g.1 7 (v2).toNatClampNeg) g) (fun _ g90 => (z_b (fX11_settle g90) (fun _ g94 => (rc (v1, (v2 + 1)) g94))))))
def fX11_patched_B110 (k134 : Int32 → Int64 → z_S → Option (Int32 × z_S)) (rc : (Int32 × Int64 × Int32) → z_S → Option (Int32 × z_S)) (a : Int32 × Int64 × Int32) (g : z_S) : Option (Int32 × z_S) := match a with
  | (v1, v2, v4) =>
  if 4 < v4 then (k134 v1 v2 g) else (z_g (z_in v4 5) (z_b (fX11_least v2 (g.2 30 (v4).toNatClampNeg) g) (fun r124 g124 => (rc (v1, r124, (v4 + 1)) g124))))
def fX11_patched (v1 : Int32) (g : z_S) : Option (Int32 × z_S) :=
  z_b (fX11_in ((v1).toInt64) 0 1 g) (fun r4 g4 => (if r4 = 0 then (some ((-1002), g4)) else (z_loop (fX11_patched_B16 (fun (v1 : Int32) (g : z_S) => z_loop (fX11_patched_B47 (fun (v1 : Int32) (g : z_S) => z_b (fX11_settle g) (fun _ g70 => (z_loop (fX11_patched_B75 (fun (v1 : Int32) (g : z_S) => z_loop (fX11_patched_B110 (fun (v1 : Int32) (v2 : Int64) (g : z_S) => if v1 = 0 then (some ((v2 / 100000).toInt32, g)) else (some ((v2 - v2 / 100000 * 100000).toInt32, g)))) zN (v1, 1000000000000, 0) g)) zN (v1, 0) g70)))) zN (v1, 0) g)) zN (v1, 0) g4)))
def fX11_line_B33 (k67 : z_S → Option (Int32 × z_S)) (rc : Int32 → z_S → Option (Int32 × z_S)) (v1 : Int32) (g : z_S) : Option (Int32 × z_S) :=
  if g.1 0 9 ≤ v1 then (k67 g) else (z_g (z_in v1 48) (z_g (z_in ((24 * (g.1 0 10)) + v1) 96) (z_s (z_wi g 8 ((24 * (g.1 0 10)) + v1).toNatClampNeg (g.1 7 (v1).toNatClampNeg)) (fun g60 => (rc (v1 + 1) g60)))))
def fX11_line (g : z_S) : Option (Int32 × z_S) :=
  z_b (fX11_in ((g.1 0 9).toInt64) 1 24 g) (fun r9 g9 => (if r9 = 0 then (some ((-1002), g9)) else (if g9.1 0 10 = 4 then (some ((-1004), g9)) else (z_loop (fX11_line_B33 (fun (g : z_S) => z_g (z_in (g.1 0 10) 4) (z_s (z_wi g 9 (g.1 0 10).toNatClampNeg (g.1 0 9)) (fun g79 => (z_s (z_wi g79 0 10 ((g79.1 0 10) + 1)) (fun g87 => (z_s (z_wi g87 0 9 0) (fun g92 => (some (g92.1 0 10, g92)))))))))) zN 0 g9))))
def fX11_drop (g : z_S) : Option (Int32 × z_S) :=
  z_s (z_wi g 0 10 0) (fun g7 => (some (g.1 0 10, g7)))
def fX11_standsIn_B27 (rc : (Int32 × Int32 × Int32 × Int32 × Int32) → z_S → Option (Int32 × z_S)) (a : Int32 × Int32 × Int32 × Int32 × Int32) (g : z_S) : Option (Int32 × z_S) := match a with
  | (v1, v2, v3, v4, v5) =>
  z_g (z_in v2 17) (if g.1 2 (v2).toNatClampNeg ≤ v5 then (z_g (v4 &&& 1 == v4) (some (v4, g))) else (if v4 = 0 then (z_g (v4 &&& 1 == v4) (some (v4, g))) else (z_g (z_in (((24 * v1) + v3) + v5) 96) (z_g (z_in ((8 * v2) + v5) 136) (if g.1 8 (((24 * v1) + v3) + v5).toNatClampNeg = g.1 1 ((8 * v2) + v5).toNatClampNeg then (rc (v1, v2, v3, 1, (v5 + 1)) g) else (rc (v1, v2, v3, 0, (v5 + 1)) g))))))
def fX11_standsIn (v1 : Int32) (v2 : Int32) (v3 : Int32) (g : z_S) : Option (Int32 × z_S) :=
  z_g (z_in v2 17) (z_g (z_in v1 4) (if g.1 9 (v1).toNatClampNeg < v3 + (g.1 2 (v2).toNatClampNeg) then (z_loop fX11_standsIn_B27 zN (v1, v2, v3, 0, 0) g) else (z_loop fX11_standsIn_B27 zN (v1, v2, v3, 1, 0) g)))
def fX11_findSums_B56 (k148 : Int32 → Int32 → Int32 → Int32 → Int32 → z_S → Option (Int32 × z_S)) (rc : (Int32 × Int32 × Int32 × Int32 × Int32 × Int32) → z_S → Option (Int32 × z_S)) (a : Int32 × Int32 × Int32 × Int32 × Int32 × Int32) (g : z_S) : Option (Int32 × z_S) := match a with
  | (v1, v2, v3, v4, v5, v6) =>
  if g.1 0 1 ≤ v6 then (k148 v1 v2 v3 v4 v5 g) else (if v2 ≤ v3 then (k148 v1 v2 v3 v4 v5 g) else (z_b (fX11_mayFollow v4 v6 g) (fun r75 g75 => (if r75 = 0 then (rc (v1, v2, v3, v4, v5, (v6 + 1)) g75) else (z_b (fX11_standsIn v1 v6 v3 g75) (fun r86 g86 => (if r86 = 0 then (rc (v1, v2, v3, v4, v5, (v6 + 1)) g86) else (z_g (z_in v6 17) (z_g (z_in v6 17) (z_g (z_in v6 17) (z_b (fX11_cell (v3 + (g86.1 2 (v6).toNatClampNeg)) (g86.1 4 (v6).toNatClampNeg) g86) (fun r119 g119 => (z_g (z_in r119 125) (if v5 ≤ (g86.1 3 (v6).toNatClampNeg) + (g119.1 34 (r119).toNatClampNeg) then (rc (v1, v2, v3, v4, v5, (v6 + 1)) g119) else (rc (v1, v2, v3, v4, ((g86.1 3 (v6).toNatClampNeg) + (g119.1 34 (r119).toNatClampNeg)), (v6 + 1)) g119)))))))))))))))
def fX11_findSums_B16 (k167 : Int32 → Int32 → Int32 → z_S → Option (Int32 × z_S)) (rc : (Int32 × Int32 × Int32 × Int32) → z_S → Option (Int32 × z_S)) (a : Int32 × Int32 × Int32 × Int32) (g : z_S) : Option (Int32 × z_S) := match a with
  | (v1, v2, v3, v4) =>
  if 4 < v4 then (k167 v1 v2 v3 g) else (if v3 = v2 then (z_loop (fX11_findSums_B56 (fun (v1 : Int32) (v2 : Int32) (v3 : Int32) (v4 : Int32) (v5 : Int32) (g : z_S) => z_b (fX11_cell v3 v4 g) (fun r155 g155 => (z_g (z_in r155 125) (z_s (z_wi g155 34 (r155).toNatClampNeg v5) (fun g160 => (rc (v1, v2, v3, (v4 + 1)) g160))))))) zN (v1, v2, v3, v4, 0, 0) g) else (z_g (z_in 2 3) (z_b (fX11_cell (v3 + 1) v4 g) (fun r46 g46 => (z_g (z_in r46 125) (z_loop (fX11_findSums_B56 (fun (v1 : Int32) (v2 : Int32) (v3 : Int32) (v4 : Int32) (v5 : Int32) (g : z_S) => z_b (fX11_cell v3 v4 g) (fun r155 g155 => (z_g (z_in r155 125) (z_s (z_wi g155 34 (r155).toNatClampNeg v5) (fun g160 => (rc (v1, v2, v3, (v4 + 1)) g160))))))) zN (v1, v2, v3, v4, ((g.1 6 (2 : Int32).toNatClampNeg) + (g46.1 34 (r46).toNatClampNeg)), 0) g46))))))
def fX11_findSums_B9 (k173 : z_S → Option (Int32 × z_S)) (rc : (Int32 × Int32 × Int32) → z_S → Option (Int32 × z_S)) (a : Int32 × Int32 × Int32) (g : z_S) : Option (Int32 × z_S) := match a with
  | (v1, v2, v3) =>
  if v3 < 0 then (k173 g) else (z_loop (fX11_findSums_B16 (fun (v1 : Int32) (v2 : Int32) (v3 : Int32) (g : z_S) => rc (v1, v2, (v3 + (-1))) g)) zN (v1, v2, v3, 0) g)
def fX11_findSums (v1 : Int32) (g : z_S) : Option (Int32 × z_S) :=
  z_g (z_in v1 4) (z_loop (fX11_findSums_B9 (fun (g : z_S) => z_b (fX11_cell 0 4 g) (fun r179 g179 => (z_g (z_in r179 125) (some (g179.1 34 (r179).toNatClampNeg, g179)))))) zN (v1, (g.1 9 (v1).toNatClampNeg), (g.1 9 (v1).toNatClampNeg)) g)
def fX11_totals_B4 (rc : (Int32 × Int32) → z_S → Option (Int32 × z_S)) (a : Int32 × Int32) (g : z_S) : Option (Int32 × z_S) := match a with
  | (v1, v2) =>
  if g.1 0 10 ≤ v2 then (some (v1, g)) else (z_b (fX11_findSums v2 g) (fun r15 g15 => (rc ((v1 + r15), (v2 + 1)) g15)))
def fX11_totals (g : z_S) : Option (Int32 × z_S) :=
  z_loop fX11_totals_B4 zN (0, 0) g
def fX11_useLine_J114 (rc : (Int32 × Int32 × Int32 × Int32 × Int32) → z_S → Option (Unit × z_S)) (v1 : Int32) (v3 : Int32) (v4 : Int32) (v6 : Int32) (s0 : Int32) (g : z_S) : Option (Unit × z_S) :=
  if s0 = 0 then (rc (v1, v3, v4, (-1), (v6 + 1)) g) else (rc (v1, v3, v4, v6, (v6 + 1)) g)
def fX11_useLine_B27 (k135 : Int32 → Int32 → Int32 → Int32 → z_S → Option (Unit × z_S)) (rc : (Int32 × Int32 × Int32 × Int32 × Int32) → z_S → Option (Unit × z_S)) (a : Int32 × Int32 × Int32 × Int32 × Int32) (g : z_S) : Option (Unit × z_S) := match a with
  | (v1, v3, v4, v5, v6) =>
  if g.1 0 1 ≤ v6 then (k135 v1 v3 v4 v5 g) else (if 0 ≤ v5 then (k135 v1 v3 v4 v5 g) else (z_b (fX11_mayFollow v4 v6 g) (fun r46 g46 => (if r46 = 0 then (fX11_useLine_J114 rc v1 v3 v4 v6 0 g46) else (z_b (fX11_standsIn v1 v6 v3 g46) (fun r57 g57 => (if r57 = 0 then (fX11_useLine_J114 rc v1 v3 v4 v6 0 g57) else (z_g (z_in v6 17) (z_g (z_in v6 17) (z_g (z_in v6 17) (z_b (fX11_cell (v3 + (g57.1 2 (v6).toNatClampNeg)) (g57.1 4 (v6).toNatClampNeg) g57) (fun r90 g90 => (z_g (z_in r90 125) (z_b (fX11_cell v3 v4 g90) (fun r102 g102 => (z_g (z_in r102 125) (if (g57.1 3 (v6).toNatClampNeg) + (g90.1 34 (r90).toNatClampNeg) = g102.1 34 (r102).toNatClampNeg then (fX11_useLine_J114 rc v1 v3 v4 v6 1 g102) else (fX11_useLine_J114 rc v1 v3 v4 v6 0 g102))))))))))))))))))
def fX11_useLine_B11 (rc : (Int32 × Int32 × Int32) → z_S → Option (Unit × z_S)) (a : Int32 × Int32 × Int32) (g : z_S) : Option (Unit × z_S) := match a with
  | (v1, v3, v4) =>
  z_g (z_in v1 4) (if g.1 9 (v1).toNatClampNeg ≤ v3 then (some ((), g)) else (z_loop (fX11_useLine_B27 (fun (v1 : Int32) (v3 : Int32) (v4 : Int32) (v5 : Int32) (g : z_S) => if 0 ≤ v5 then (z_g (z_in v5 17) (z_g (z_in v5 17) (z_s (z_wi g 35 (v5).toNatClampNeg ((g.1 35 (v5).toNatClampNeg) + 1)) (fun g166 => (z_g (z_in v5 17) (z_g (z_in v5 17) (rc (v1, (v3 + (g166.1 2 (v5).toNatClampNeg)), (g166.1 4 (v5).toNatClampNeg)) g166))))))) else (z_s (z_wi g 0 48 ((g.1 0 48) + 1)) (fun g147 => (rc (v1, (v3 + 1), v4) g147))))) zN (v1, v3, v4, (-1), 0) g))
def fX11_useLine (v1 : Int32) (g : z_S) : Option (Unit × z_S) :=
  z_b (fX11_findSums v1 g) (fun r2 g2 => (z_loop fX11_useLine_B11 zN (v1, 0, 4) g2))
def fX11_findUses_B7 (k26 : z_S → Option (Unit × z_S)) (rc : Int32 → z_S → Option (Unit × z_S)) (v1 : Int32) (g : z_S) : Option (Unit × z_S) :=
  if 17 ≤ v1 then (k26 g) else (z_g (z_in v1 17) (z_s (z_wi g 35 (v1).toNatClampNeg 0) (fun g19 => (rc (v1 + 1) g19))))
def fX11_findUses_B28 (rc : Int32 → z_S → Option (Unit × z_S)) (v1 : Int32) (g : z_S) : Option (Unit × z_S) :=
  if g.1 0 10 ≤ v1 then (some ((), g)) else (z_b (fX11_useLine v1 g) (fun _ g38 => (rc (v1 + 1) g38)))
def fX11_findUses (g : z_S) : Option (Unit × z_S) :=
  z_s (z_wi g 0 48 0) (fun g2 => (z_loop (fX11_findUses_B7 (fun (g : z_S) => z_loop fX11_findUses_B28 zN 0 g)) zN 0 g2))
def fX11_uses_J17 (v1 : Int32) (g : z_S) : Option (Int32 × z_S) :=
  z_b (fX11_findUses g) (fun _ g18 => (if v1 = (-1) then (some (g18.1 0 48, g18)) else (z_g (z_in v1 17) (some (g18.1 35 (v1).toNatClampNeg, g18)))))
def fX11_uses (v1 : Int32) (g : z_S) : Option (Int32 × z_S) :=
  if v1 = (-1) then (fX11_uses_J17 v1 g) else (z_b (fX11_noWord v1 g) (fun r7 g7 => (if r7 = 0 then (fX11_uses_J17 v1 g7) else (some ((-1001), g7)))))
def fX11_learnOnce_J52 (rc : (Int32 × Int32 × Int32 × Int32) → z_S → Option (Int32 × z_S)) (v1 : Int32) (v2 : Int32) (v4 : Int32) (s0 : Int32) (s1 : Int32) (g : z_S) : Option (Int32 × z_S) :=
  z_b (fX11_one s0 g) (fun r52 g52 => (rc (v1, v2, (s1 + r52), (v4 + 1)) g52))
def fX11_learnOnce_B21 (k63 : Int32 → Int32 → Int32 → z_S → Option (Int32 × z_S)) (rc : (Int32 × Int32 × Int32 × Int32) → z_S → Option (Int32 × z_S)) (a : Int32 × Int32 × Int32 × Int32) (g : z_S) : Option (Int32 × z_S) := match a with
  | (v1, v2, v3, v4) =>
  if g.1 0 1 ≤ v4 then (k63 v1 v2 v3 g) else (z_g (z_in v4 17) (z_g (z_in v2 17) (if g.1 35 (v4).toNatClampNeg ≤ g.1 35 (v2).toNatClampNeg then (fX11_learnOnce_J52 rc v1 v2 v4 0 v3 g) else (fX11_learnOnce_J52 rc v1 v2 v4 1 v3 g))))
def fX11_learnOnce_J82 (rc : (Int32 × Int32) → z_S → Option (Int32 × z_S)) (v2 : Int32) (v3 : Int32) (s0 : Int32) (g : z_S) : Option (Int32 × z_S) :=
  z_g (z_in v2 17) (z_s (z_wi g 3 (v2).toNatClampNeg v3) (fun g89 => (rc (s0, (v2 + 1)) g89)))
def fX11_learnOnce_B8 (rc : (Int32 × Int32) → z_S → Option (Int32 × z_S)) (a : Int32 × Int32) (g : z_S) : Option (Int32 × z_S) := match a with
  | (v1, v2) =>
  if g.1 0 1 ≤ v2 then (z_g (v1 &&& 1 == v1) (some (v1, g))) else (z_loop (fX11_learnOnce_B21 (fun (v1 : Int32) (v2 : Int32) (v3 : Int32) (g : z_S) => if v1 = 0 then (z_g (z_in v2 17) (if g.1 3 (v2).toNatClampNeg = v3 then (fX11_learnOnce_J82 rc v2 v3 0 g) else (fX11_learnOnce_J82 rc v2 v3 1 g))) else (fX11_learnOnce_J82 rc v2 v3 1 g))) zN (v1, v2, 1, 0) g)
def fX11_learnOnce (g : z_S) : Option (Int32 × z_S) :=
  z_b (fX11_findUses g) (fun _ g1 => (z_loop fX11_learnOnce_B8 zN (0, 0) g1))
def fX11_learn_B18 (rc : (Int32 × Int32) → z_S → Option (Int32 × z_S)) (a : Int32 × Int32) (g : z_S) : Option (Int32 × z_S) := match a with
  | (v1, v2) =>
  if v1 ≤ v2 then (some ((-1), g)) else (z_b (fX11_learnOnce g) (fun r24 g24 => (if r24 = 0 then (some (v2, g24)) else (rc (v1, (v2 + 1)) g24))))
def fX11_learn (v1 : Int32) (g : z_S) : Option (Int32 × z_S) :=
  z_b (fX11_in ((v1).toInt64) 1 20 g) (fun r6 g6 => (if r6 = 0 then (some ((-1002), g6)) else (z_loop fX11_learn_B18 zN (v1, 0) g6)))
def fX11_layWord_B23 (k64 : Int32 → z_S → Option (Int32 × z_S)) (rc : (Int32 × Int32 × Int32 × Int32) → z_S → Option (Int32 × z_S)) (a : Int32 × Int32 × Int32 × Int32) (g : z_S) : Option (Int32 × z_S) := match a with
  | (v1, v2, v3, v4) =>
  if v3 ≤ v4 then (k64 v3 g) else (z_g (z_in (((24 * v1) + v2) + v4) 96) (z_g (z_in ((8 * (g.1 0 1)) + v4) 136) (z_s (z_wi g 1 ((8 * (g.1 0 1)) + v4).toNatClampNeg (g.1 8 (((24 * v1) + v2) + v4).toNatClampNeg)) (fun g57 => (rc (v1, v2, v3, (v4 + 1)) g57)))))
def fX11_layWord_B105 (k160 : Int32 → Int32 → Int32 → z_S → Option (Int32 × z_S)) (rc : (Int32 × Int32 × Int32 × Int32) → z_S → Option (Int32 × z_S)) (a : Int32 × Int32 × Int32 × Int32) (g : z_S) : Option (Int32 × z_S) := match a with
  | (v3, v5, v6, v7) =>
  if v3 ≤ v7 then (k160 v3 v5 v6 g) else (if v6 = 0 then (k160 v3 v5 v6 g) else (z_g (z_in ((8 * v5) + v7) 136) (z_g (z_in ((8 * (g.1 0 1)) + v7) 136) (if g.1 1 ((8 * v5) + v7).toNatClampNeg = g.1 1 ((8 * (g.1 0 1)) + v7).toNatClampNeg then (rc (v3, v5, 1, (v7 + 1)) g) else (rc (v3, v5, 0, (v7 + 1)) g)))))
def fX11_layWord_B70 (rc : (Int32 × Int32 × Int32) → z_S → Option (Int32 × z_S)) (a : Int32 × Int32 × Int32) (g : z_S) : Option (Int32 × z_S) := match a with
  | (v3, v4, v5) =>
  if g.1 0 1 ≤ v5 then (z_g (v4 &&& 1 == v4) (some (v4, g))) else (if v4 = 0 then (z_g (v4 &&& 1 == v4) (some (v4, g))) else (z_g (z_in v5 17) (if g.1 2 (v5).toNatClampNeg = v3 then (z_loop (fX11_layWord_B105 (fun (v3 : Int32) (v5 : Int32) (v6 : Int32) (g : z_S) => if v6 = 0 then (rc (v3, 1, (v5 + 1)) g) else (rc (v3, 0, (v5 + 1)) g))) zN (v3, v5, 1, 0) g) else (z_loop (fX11_layWord_B105 (fun (v3 : Int32) (v5 : Int32) (v6 : Int32) (g : z_S) => if v6 = 0 then (rc (v3, 1, (v5 + 1)) g) else (rc (v3, 0, (v5 + 1)) g))) zN (v3, v5, 0, 0) g))))
def fX11_layWord (v1 : Int32) (v2 : Int32) (v3 : Int32) (g : z_S) : Option (Int32 × z_S) :=
  z_g (z_in (g.1 0 1) 17) (z_s (z_wi g 2 (g.1 0 1).toNatClampNeg v3) (fun g9 => (z_g (z_in (g9.1 0 1) 17) (z_s (z_wi g9 4 (g9.1 0 1).toNatClampNeg 0) (fun g19 => (z_loop (fX11_layWord_B23 (fun (v3 : Int32) (g : z_S) => z_loop fX11_layWord_B70 zN (v3, 1, 0) g)) zN (v1, v2, v3, 0) g19))))))
def fX11_isAheadOfBest_B2 (k41 : Int32 → z_S → Option (Int32 × z_S)) (k57 : Int32 → z_S → Option (Int32 × z_S)) (rc : (Int32 × Int32) → z_S → Option (Int32 × z_S)) (a : Int32 × Int32) (g : z_S) : Option (Int32 × z_S) := match a with
  | (v1, v2) =>
  if v1 ≤ v2 then (k57 v1 g) else (if g.1 0 50 ≤ v2 then (k57 v1 g) else (z_g (z_in ((8 * (g.1 0 1)) + v2) 136) (z_g (z_in v2 5) (if (g.1 1 ((8 * (g.1 0 1)) + v2).toNatClampNeg) - (g.1 36 (v2).toNatClampNeg) = 0 then (rc (v1, (v2 + 1)) g) else (k41 ((g.1 1 ((8 * (g.1 0 1)) + v2).toNatClampNeg) - (g.1 36 (v2).toNatClampNeg)) g)))))
def fX11_isAheadOfBest (v1 : Int32) (g : z_S) : Option (Int32 × z_S) :=
  z_loop (fX11_isAheadOfBest_B2 (fun (v3 : Int32) (g : z_S) => if 0 ≤ v3 then (some (0, g)) else (some (1, g))) (fun (v1 : Int32) (g : z_S) => if g.1 0 50 ≤ v1 then (some (0, g)) else (some (1, g)))) zN (v1, 0) g
def fX11_tryWord_B68 (rc : (Int32 × Int32) → z_S → Option (Unit × z_S)) (a : Int32 × Int32) (g : z_S) : Option (Unit × z_S) := match a with
  | (v1, v4) =>
  if v1 ≤ v4 then (some ((), g)) else (z_g (z_in ((8 * (g.1 0 1)) + v4) 136) (z_g (z_in v4 5) (z_s (z_wi g 36 (v4).toNatClampNeg (g.1 1 ((8 * (g.1 0 1)) + v4).toNatClampNeg)) (fun g95 => (rc (v1, (v4 + 1)) g95)))))
def fX11_tryWord_J55 (v1 : Int32) (v3 : Int32) (g : z_S) : Option (Unit × z_S) :=
  z_s (z_wi g 0 51 v3) (fun g57 => (z_s (z_wi g57 0 50 v1) (fun g62 => (z_loop fX11_tryWord_B68 zN (v1, 0) g62))))
def fX11_tryWord (v1 : Int32) (v2 : Int32) (g : z_S) : Option (Unit × z_S) :=
  z_s (z_wi g 0 1 ((g.1 0 1) + 1)) (fun g7 => (z_b (fX11_totals g7) (fun r12 g12 => (z_s (z_wi g12 0 1 ((g12.1 0 1) - 1)) (fun g24 => (if g24.1 0 51 < v2 - r12 then (fX11_tryWord_J55 v1 (v2 - r12) g24) else (if v2 - r12 ≤ 0 then (some ((), g24)) else (if v2 - r12 = g24.1 0 51 then (z_b (fX11_isAheadOfBest v1 g24) (fun r49 g49 => (if r49 = 0 then (some ((), g49)) else (fX11_tryWord_J55 v1 (v2 - r12) g49)))) else (some ((), g24))))))))))
def fX11_fresh_B96 (k144 : Int32 → Int32 → Int32 → Int32 → z_S → Option (Int32 × z_S)) (rc : (Int32 × Int32 × Int32 × Int32 × Int32) → z_S → Option (Int32 × z_S)) (a : Int32 × Int32 × Int32 × Int32 × Int32) (g : z_S) : Option (Int32 × z_S) := match a with
  | (v2, v3, v4, v5, v6) =>
  if 6 ≤ v6 then (k144 v2 v3 v4 v5 g) else (z_g (z_in v4 4) (if g.1 9 (v4).toNatClampNeg < v5 + v6 then (k144 v2 v3 v4 v5 g) else (z_b (fX11_layWord v4 v5 v6 g) (fun r125 g125 => (if r125 = 0 then (rc (v2, v3, v4, v5, (v6 + 1)) g125) else (z_b (fX11_tryWord v6 v3 g125) (fun _ g135 => (rc (v2, v3, v4, v5, (v6 + 1)) g135))))))))
def fX11_fresh_B81 (k150 : Int32 → Int32 → Int32 → z_S → Option (Int32 × z_S)) (rc : (Int32 × Int32 × Int32 × Int32) → z_S → Option (Int32 × z_S)) (a : Int32 × Int32 × Int32 × Int32) (g : z_S) : Option (Int32 × z_S) := match a with
  | (v2, v3, v4, v5) =>
  z_g (z_in v4 4) (if g.1 9 (v4).toNatClampNeg ≤ v5 then (k150 v2 v3 v4 g) else (z_loop (fX11_fresh_B96 (fun (v2 : Int32) (v3 : Int32) (v4 : Int32) (v5 : Int32) (g : z_S) => rc (v2, v3, v4, (v5 + 1)) g)) zN (v2, v3, v4, v5, 2) g))
def fX11_fresh_B69 (k156 : Int32 → z_S → Option (Int32 × z_S)) (rc : (Int32 × Int32 × Int32) → z_S → Option (Int32 × z_S)) (a : Int32 × Int32 × Int32) (g : z_S) : Option (Int32 × z_S) := match a with
  | (v2, v3, v4) =>
  if g.1 0 10 ≤ v4 then (k156 v2 g) else (z_loop (fX11_fresh_B81 (fun (v2 : Int32) (v3 : Int32) (v4 : Int32) (g : z_S) => rc (v2, v3, (v4 + 1)) g)) zN (v2, v3, v4, 0) g)
def fX11_fresh (v1 : Int32) (v2 : Int32) (g : z_S) : Option (Int32 × z_S) :=
  z_b (fX11_in ((v1).toInt64) 0 99 g) (fun r6 g6 => (if r6 = 0 then (some ((-1002), g6)) else (z_b (fX11_in ((v2).toInt64) 0 6 g6) (fun r18 g18 => (if r18 = 0 then (some ((-1002), g18)) else (if g18.1 0 1 = 16 then (some ((-1003), g18)) else (z_b (fX11_totals g18) (fun r42 g42 => (z_s (z_wi g42 0 51 0) (fun g48 => (z_s (z_wi g48 0 50 0) (fun g53 => (z_g (z_in (g53.1 0 1) 17) (z_s (z_wi g53 3 (g53.1 0 1).toNatClampNeg v1) (fun g65 => (z_loop (fX11_fresh_B69 (fun (v2 : Int32) (g : z_S) => if g.1 0 51 = 0 then (some ((-1), g)) else (if v2 = 0 then (some (g.1 0 51, g)) else (if v2 = 1 then (some (g.1 0 50, g)) else (if g.1 0 50 ≤ v2 - 2 then (some ((-1), g)) else (z_g (z_in (v2 - 2) 5) (some (g.1 36 (v2 - 2).toNatClampNeg, g)))))))) zN (v2, r42, 0) g65))))))))))))))))
