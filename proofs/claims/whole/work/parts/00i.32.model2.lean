def lX8_high_4 (N : Nat) (p0_ : Nat) : Nat → Int32 → Hp → (Int32 → Hp → Option (Int32 × Hp)) → Option (Int32 × Hp)
  | 0, _, _, _ => none
  | n + 1, z3, h4, κ => if z3 < 0 then κ z3 h4 else (aI h4 p0_ z3).bind fun v6 => if v6 = 0 then nm (z3 + (-1 : Int32)) fun x8 => lX8_high_4 N p0_ n x8 h4 κ else κ z3 h4
def fX8_high (N : Nat) (a0 : Nat) (h : Hp) : Option (Int32 × Hp) := lX8_high_4 N a0 N (255 : Int32) h (fun y1 h2 => some (y1, h2))
def lX8_empty_2 (N : Nat) (p0_ : Nat) : Nat → Int32 → Hp → (Int32 → Hp → Option Hp) → Option Hp
  | 0, _, _, _ => none
  | n + 1, z3, h4, κ => if (256 : Int32) ≤ z3 then κ z3 h4 else (aIs h4 p0_ z3 (0 : Int32)).bind fun h6 => nm (z3 + (1 : Int32)) fun x7 => lX8_empty_2 N p0_ n x7 h6 κ
def fX8_empty (N : Nat) (a0 : Nat) (h : Hp) : Option Hp := lX8_empty_2 N a0 N (0 : Int32) h (fun y1 h2 => some h2)
def lX8_makeMonic_24 (N : Nat) (p0_ : Nat) (p1_ : Int32) (p2_ : Int64) : Nat → Int32 → Hp → (Int32 → Hp → Option Hp) → Option Hp
  | 0, _, _, _ => none
  | n + 1, z8, h9, κ => if p1_ < z8 then κ z8 h9 else (aI h9 p0_ z8).bind fun v11 => (aIs h9 p0_ z8 ((lrm ((v11.toInt64) * p2_) (32003 : Int64)).toInt32)).bind fun h12 => nm (z8 + (1 : Int32)) fun x13 => lX8_makeMonic_24 N p0_ p1_ p2_ n x13 h12 κ
def fX8_makeMonic (N : Nat) (a0 : Nat) (h : Hp) : Option Hp := (fX8_high N a0 h).bind fun (v1, h2) => jn (fun t5 h4 => lX8_makeMonic_24 N a0 v1 t5 N (0 : Int32) h4 (fun y6 h7 => some h7)) fun (j3 : Int64 → Hp → Option Hp) => if 0 ≤ v1 then (aI h2 a0 v1).bind fun v22 => (fX8_inverse N v22 h2).bind fun (v23, h24) => j3 (v23.toInt64) h24 else j3 (1 : Int64) h2
def lX8_divide_71 (N : Nat) (p0_ : Nat) (p1_ : Nat) (p2_ : Nat) (p3_ : Int32) (p4_ : Int64) (p6_ : Int32) (p7_ : Int64) : Nat → Int32 → Hp → (Int32 → Hp → Option Hp) → Option Hp
  | 0, _, _, _ => none
  | n + 1, z26, h27, κ => if p3_ < z26 then κ z26 h27 else (aI h27 p1_ ((p6_ - p3_) + z26)).bind fun v29 => (aI h27 p2_ z26).bind fun v30 => (fX8_modulo N ((v29.toInt64) - (p7_ * (v30.toInt64))) h27).bind fun (v31, h32) => (aIs h32 p1_ ((p6_ - p3_) + z26) v31).bind fun h33 => nm (z26 + (1 : Int32)) fun x34 => lX8_divide_71 N p0_ p1_ p2_ p3_ p4_ p6_ p7_ n x34 h33 κ
def lX8_divide_26 (N : Nat) (p0_ : Nat) (p1_ : Nat) (p2_ : Nat) (p3_ : Int32) (p4_ : Int64) : Nat → Int32 → Hp → (Int32 → Hp → Option Hp) → Option Hp
  | 0, _, _, _ => none
  | n + 1, z12, h13, κ => if z12 < p3_ then κ z12 h13 else (aI h13 p1_ z12).bind fun v15 => jn (fun h17 => nm (z12 + (-1 : Int32)) fun x18 => lX8_divide_26 N p0_ p1_ p2_ p3_ p4_ n x18 h17 κ) fun (j16 : Hp → Option Hp) => if v15 = 0 then j16 h13 else (aI h13 p1_ z12).bind fun v20 => nm (lrm ((v20.toInt64) * p4_) (32003 : Int64)) fun x21 => (gR h13 p0_ 10 12).bind fun v22 => (aIs h13 v22 (z12 - p3_) (x21.toInt32)).bind fun h23 => lX8_divide_71 N p0_ p1_ p2_ p3_ p4_ z12 x21 N (0 : Int32) h23 (fun y24 h25 => j16 h25)
def fX8_divide (N : Nat) (a0 : Nat) (a1 : Nat) (a2 : Nat) (h : Hp) : Option Hp := (fX8_high N a2 h).bind fun (v1, h2) => (aI h2 a2 v1).bind fun v3 => (fX8_inverse N v3 h2).bind fun (v4, h5) => nm (v4.toInt64) fun x6 => (gR h5 a0 10 12).bind fun v7 => (fX8_empty N v7 h5).bind fun h9 => lX8_divide_26 N a0 a1 a2 v1 x6 N (255 : Int32) h9 (fun y10 h11 => some h11)
def lX8_common_24 (N : Nat) (p0_ : Nat) : Nat → Int32 → Hp → (Int32 → Hp → Option Hp) → Option Hp
  | 0, _, _, _ => none
  | n + 1, z17, h18, κ => if (256 : Int32) ≤ z17 then κ z17 h18 else (gR h18 p0_ 10 10).bind fun v20 => (aI h18 v20 z17).bind fun v21 => (gR h18 p0_ 10 10).bind fun v22 => (gR h18 p0_ 10 11).bind fun v23 => (aI h18 v23 z17).bind fun v24 => (aIs h18 v22 z17 v24).bind fun h25 => (gR h25 p0_ 10 11).bind fun v26 => (aIs h25 v26 z17 v21).bind fun h27 => nm (z17 + (1 : Int32)) fun x28 => lX8_common_24 N p0_ n x28 h27 κ
def lX8_common_0 (N : Nat) (p0_ : Nat) : Nat → Hp → (Hp → Option Hp) → Option Hp
  | 0, _, _ => none
  | n + 1, h5, κ => (gR h5 p0_ 10 11).bind fun v6 => (fX8_high N v6 h5).bind fun (v7, h8) => if v7 < 0 then κ  h8 else (gR h8 p0_ 10 10).bind fun v10 => (gR h8 p0_ 10 11).bind fun v11 => (cK h8 p0_ 10).bind fun u14 => (fX8_divide N p0_ v10 v11 h8).bind fun h13 => lX8_common_24 N p0_ N (0 : Int32) h13 (fun y15 h16 => lX8_common_0 N p0_ n  h16 κ)
def fX8_common (N : Nat) (a0 : Nat) (h : Hp) : Option Hp := lX8_common_0 N a0 N  h (fun h1 => (gR h1 a0 10 10).bind fun v2 => (fX8_makeMonic N v2 h1).bind fun h4 => some h4)
def lX8_put0_3 (N : Nat) (p0_ : Nat) (p1_ : Int32) (p2_ : Int32) (p3_ : Int32) (p4_ : Nat) : Nat → Int32 → Hp → (Int32 → Hp → Option Hp) → Option Hp
  | 0, _, _, _ => none
  | n + 1, z3, h4, κ => if (40 : Int32) ≤ z3 then κ z3 h4 else (gR h4 p0_ 10 5).bind fun v6 => (aI h4 p4_ z3).bind fun v7 => (aIs h4 v6 (((40 : Int32) * ((((16 : Int32) * p1_) + ((4 : Int32) * p2_)) + p3_)) + z3) v7).bind fun h8 => nm (z3 + (1 : Int32)) fun x9 => lX8_put0_3 N p0_ p1_ p2_ p3_ p4_ n x9 h8 κ
def fX8_put0 (N : Nat) (a0 : Nat) (a1 : Int32) (a2 : Int32) (a3 : Int32) (a4 : Nat) (h : Hp) : Option Hp := lX8_put0_3 N a0 a1 a2 a3 a4 N (0 : Int32) h (fun y1 h2 => some h2)
def lX8_clearForm_2 (N : Nat) (p0_ : Nat) (p1_ : Int32) : Nat → Int32 → Hp → (Int32 → Hp → Option Hp) → Option Hp
  | 0, _, _, _ => none
  | n + 1, z3, h4, κ => if (640 : Int32) ≤ z3 then κ z3 h4 else (gR h4 p0_ 10 5).bind fun v6 => (aIs h4 v6 (((640 : Int32) * p1_) + z3) (0 : Int32)).bind fun h7 => nm (z3 + (1 : Int32)) fun x8 => lX8_clearForm_2 N p0_ p1_ n x8 h7 κ
def fX8_clearForm (N : Nat) (a0 : Nat) (a1 : Int32) (h : Hp) : Option Hp := lX8_clearForm_2 N a0 a1 N (0 : Int32) h (fun y1 h2 => some h2)
def lX8_makeSmith_191 (N : Nat) (p0_ : Nat) (p1_ : Int32) (p2_ : Int32) : Nat → Int32 → Hp → (Int32 → Hp → Option Hp) → Option Hp
  | 0, _, _, _ => none
  | n + 1, z33, h34, κ => if (256 : Int32) ≤ z33 then κ z33 h34 else (gR h34 p0_ 10 13).bind fun v36 => (gR h34 p0_ 10 10).bind fun v37 => (aI h34 v37 z33).bind fun v38 => (aIs h34 v36 z33 v38).bind fun h39 => nm (z33 + (1 : Int32)) fun x40 => lX8_makeSmith_191 N p0_ p1_ p2_ n x40 h39 κ
def lX8_makeSmith_137 (N : Nat) (p0_ : Nat) (p1_ : Int32) (p2_ : Int32) : Nat → Int32 → Hp → (Int32 → Hp → Option Hp) → Option Hp
  | 0, _, _, _ => none
  | n + 1, z50, h51, κ => if (256 : Int32) ≤ z50 then κ z50 h51 else (gR h51 p0_ 10 11).bind fun v53 => (gR h51 p0_ 10 10).bind fun v54 => (aI h51 v54 z50).bind fun v55 => (aIs h51 v53 z50 v55).bind fun h56 => nm (z50 + (1 : Int32)) fun x57 => lX8_makeSmith_137 N p0_ p1_ p2_ n x57 h56 κ
def lX8_makeSmith_81 (N : Nat) (p0_ : Nat) (p1_ : Int32) (p2_ : Int32) (p3_ : Int32) (p4_ : Int32) : Nat → Int32 → Hp → (Int32 → Hp → Option Hp) → Option Hp
  | 0, _, _, _ => none
  | n + 1, z93, h94, κ => if (13 : Int32) ≤ z93 then κ z93 h94 else (gR h94 p0_ 10 11).bind fun v96 => (gR h94 p0_ 10 6).bind fun v97 => (aI h94 v97 (((13 : Int32) * (((16 : Int32) * p3_) + p4_)) + z93)).bind fun v98 => (aIs h94 v96 z93 v98).bind fun h99 => nm (z93 + (1 : Int32)) fun x100 => lX8_makeSmith_81 N p0_ p1_ p2_ p3_ p4_ n x100 h99 κ
def lX8_makeSmith_44 (N : Nat) (p0_ : Nat) (p1_ : Int32) (p2_ : Int32) (p3_ : Int32) : Nat → Int32 → Hp → (Int32 → Hp → Option Hp) → Option Hp
  | 0, _, _, _ => none
  | n + 1, z73, h74, κ => if (16 : Int32) ≤ z73 then κ z73 h74 else (fX8_bits N p3_ h74).bind fun (v76, h77) => jn (fun h79 => nm (z73 + (1 : Int32)) fun x80 => lX8_makeSmith_44 N p0_ p1_ p2_ p3_ n x80 h79 κ) fun (j78 : Hp → Option Hp) => if v76 = p2_ then (fX8_bits N z73 h77).bind fun (v82, h83) => if v82 = p2_ then (gR h83 p0_ 10 11).bind fun v85 => (fX8_empty N v85 h83).bind fun h87 => lX8_makeSmith_81 N p0_ p1_ p2_ p3_ z73 N (0 : Int32) h87 (fun y88 h89 => (cK h89 p0_ 10).bind fun u92 => (fX8_common N p0_ h89).bind fun h91 => j78 h91) else j78 h83 else j78 h77
def lX8_makeSmith_35 (N : Nat) (p0_ : Nat) (p1_ : Int32) (p2_ : Int32) : Nat → Int32 → Hp → (Int32 → Hp → Option Hp) → Option Hp
  | 0, _, _, _ => none
  | n + 1, z67, h68, κ => if (16 : Int32) ≤ z67 then κ z67 h68 else lX8_makeSmith_44 N p0_ p1_ p2_ z67 N (0 : Int32) h68 (fun y70 h71 => nm (z67 + (1 : Int32)) fun x72 => lX8_makeSmith_35 N p0_ p1_ p2_ n x72 h71 κ)
def lX8_makeSmith_21 (N : Nat) (p0_ : Nat) (p1_ : Int32) : Nat → Int32 → Hp → (Int32 → Hp → Option Hp) → Option Hp
  | 0, _, _, _ => none
  | n + 1, z11, h12, κ => if p1_ < z11 then κ z11 h12 else (gR h12 p0_ 10 10).bind fun v14 => (fX8_empty N v14 h12).bind fun h16 => lX8_makeSmith_35 N p0_ p1_ z11 N (0 : Int32) h16 (fun y17 h18 => lX8_makeSmith_137 N p0_ p1_ z11 N (0 : Int32) h18 (fun y19 h20 => (gR h20 p0_ 10 11).bind fun v21 => (gR h20 p0_ 10 13).bind fun v22 => (cK h20 p0_ 10).bind fun u25 => (fX8_divide N p0_ v21 v22 h20).bind fun h24 => (gR h24 p0_ 10 12).bind fun v26 => (cK h24 p0_ 10).bind fun u29 => (fX8_put0 N p0_ (1 : Int32) (z11 - (1 : Int32)) (z11 - (1 : Int32)) v26 h24).bind fun h28 => lX8_makeSmith_191 N p0_ p1_ z11 N (0 : Int32) h28 (fun y30 h31 => nm (z11 + (1 : Int32)) fun x32 => lX8_makeSmith_21 N p0_ p1_ n x32 h31 κ)))
def fX8_makeSmith (N : Nat) (a0 : Nat) (h : Hp) : Option Hp := (cK h a0 10).bind fun u3 => (fX8_rankNow N a0 h).bind fun (v1, h2) => (gR h2 a0 10 13).bind fun v4 => (fX8_empty N v4 h2).bind fun h6 => (gR h6 a0 10 13).bind fun v7 => (aIs h6 v7 (0 : Int32) (1 : Int32)).bind fun h8 => lX8_makeSmith_21 N a0 v1 N (1 : Int32) h8 (fun y9 h10 => some h10)
def lX8_makeInverse_139 (N : Nat) (p0_ : Nat) (p1_ : Int32) (p2_ : Int32) (p3_ : Int64) (p5_ : Int32) (p6_ : Int32) (p7_ : Int32) (p8_ : Int32) : Nat → Int32 → Hp → (Int32 → Hp → Option (Int32 × Hp)) → Option (Int32 × Hp)
  | 0, _, _, _ => none
  | n + 1, z44, h45, κ => if (13 : Int32) ≤ z44 then κ z44 h45 else (gR h45 p0_ 10 10).bind fun v47 => jn (fun t50 h49 => (fX8_modulo N t50 h49).bind fun (v51, h52) => (aIs h52 v47 z44 v51).bind fun h53 => nm (z44 + (1 : Int32)) fun x54 => lX8_makeInverse_139 N p0_ p1_ p2_ p3_ p5_ p6_ p7_ p8_ n x54 h53 κ) fun (j48 : Int64 → Hp → Option (Int32 × Hp)) => if (irm (p6_ + p7_) (2 : Int32)) = 0 then (gR h45 p0_ 10 6).bind fun v58 => (aI h45 v58 (p8_ + z44)).bind fun v59 => j48 ((v59.toInt64) * p3_) h45 else (gR h45 p0_ 10 6).bind fun v56 => (aI h45 v56 (p8_ + z44)).bind fun v57 => j48 (((-v57).toInt64) * p3_) h45
def lX8_makeInverse_97 (N : Nat) (p0_ : Nat) (p1_ : Int32) (p2_ : Int32) (p3_ : Int64) (p5_ : Int32) (p6_ : Int32) : Nat → Int32 → Hp → (Int32 → Hp → Option (Int32 × Hp)) → Option (Int32 × Hp)
  | 0, _, _, _ => none
  | n + 1, z29, h30, κ => (gI h30 p0_ 10 1).bind fun v31 => if v31 ≤ z29 then κ z29 h30 else nm ((13 : Int32) * ((((16 : Int32) * (p5_ - ((1 : Int32) <<< (z29 &&& 31)))) + p5_) - ((1 : Int32) <<< (p6_ &&& 31)))) fun x33 => (gR h30 p0_ 10 10).bind fun v34 => (fX8_empty N v34 h30).bind fun h36 => lX8_makeInverse_139 N p0_ p1_ p2_ p3_ p5_ p6_ z29 x33 N (0 : Int32) h36 (fun y37 h38 => (gR h38 p0_ 10 10).bind fun v39 => (cK h38 p0_ 10).bind fun u42 => (fX8_put0 N p0_ (2 : Int32) p6_ z29 v39 h38).bind fun h41 => nm (z29 + (1 : Int32)) fun x43 => lX8_makeInverse_97 N p0_ p1_ p2_ p3_ p5_ p6_ n x43 h41 κ)
def lX8_makeInverse_85 (N : Nat) (p0_ : Nat) (p1_ : Int32) (p2_ : Int32) (p3_ : Int64) (p5_ : Int32) : Nat → Int32 → Hp → (Int32 → Hp → Option (Int32 × Hp)) → Option (Int32 × Hp)
  | 0, _, _, _ => none
  | n + 1, z22, h23, κ => (gI h23 p0_ 10 1).bind fun v24 => if v24 ≤ z22 then κ z22 h23 else lX8_makeInverse_97 N p0_ p1_ p2_ p3_ p5_ z22 N (0 : Int32) h23 (fun y26 h27 => nm (z22 + (1 : Int32)) fun x28 => lX8_makeInverse_85 N p0_ p1_ p2_ p3_ p5_ n x28 h27 κ)
def lX8_makeInverse_22 (N : Nat) (p0_ : Nat) (p1_ : Int32) : Nat → Int32 → Int32 → Hp → (Int32 → Int32 → Hp → Option (Int32 × Hp)) → Option (Int32 × Hp)
  | 0, _, _, _, _ => none
  | n + 1, z231, z232, h233, κ => if (13 : Int32) ≤ z232 then κ z231 z232 h233 else jn (fun t237 h236 => nm (z232 + (1 : Int32)) fun x238 => lX8_makeInverse_22 N p0_ p1_ n t237 x238 h236 κ) fun (j235 : Int32 → Hp → Option (Int32 × Hp)) => jn (fun h240 => j235 (0 : Int32) h240) fun (j239 : Hp → Option (Int32 × Hp)) => if z231 = 0 then j239 h233 else (gR h233 p0_ 10 6).bind fun v242 => (aI h233 v242 (p1_ + z232)).bind fun v243 => if v243 = 0 then j235 (1 : Int32) h233 else j239 h233
def fX8_makeInverse (N : Nat) (a0 : Nat) (h : Hp) : Option (Int32 × Hp) := (cK h a0 10).bind fun u3 => (fX8_whole N a0 h).bind fun (v1, h2) => (gR h2 a0 10 6).bind fun v4 => (aI h2 v4 v1).bind fun v5 => jn (fun t8 h7 => lX8_makeInverse_22 N a0 v1 N t8 (1 : Int32) h7 (fun y9 y10 h11 => if y9 = 0 then some ((0 : Int32), h11) else (gR h11 a0 10 6).bind fun v13 => (aI h11 v13 v1).bind fun v14 => (fX8_inverse N v14 h11).bind fun (v15, h16) => nm (v15.toInt64) fun x17 => (gI h16 a0 10 1).bind fun v18 => nm (((1 : Int32) <<< (v18 &&& 31)) - (1 : Int32)) fun x19 => lX8_makeInverse_85 N a0 v1 y9 x17 x19 N (0 : Int32) h16 (fun y20 h21 => some ((1 : Int32), h21)))) fun (j6 : Int32 → Hp → Option (Int32 × Hp)) => if v5 = 0 then j6 (0 : Int32) h2 else j6 (1 : Int32) h2
def lX8_take_3 (N : Nat) (p0_ : Nat) (p1_ : Nat) (p2_ : Int32) (p3_ : Int32) : Nat → Int32 → Hp → (Int32 → Hp → Option Hp) → Option Hp
  | 0, _, _, _ => none
  | n + 1, z3, h4, κ => if (256 : Int32) ≤ z3 then κ z3 h4 else (gR h4 p0_ 10 8).bind fun v6 => (aI h4 v6 (((256 : Int32) * (((4 : Int32) * p2_) + p3_)) + z3)).bind fun v7 => (aIs h4 p1_ z3 v7).bind fun h8 => nm (z3 + (1 : Int32)) fun x9 => lX8_take_3 N p0_ p1_ p2_ p3_ n x9 h8 κ
def fX8_take (N : Nat) (a0 : Nat) (a1 : Nat) (a2 : Int32) (a3 : Int32) (h : Hp) : Option Hp := lX8_take_3 N a0 a1 a2 a3 N (0 : Int32) h (fun y1 h2 => some h2)
def lX8_give_3 (N : Nat) (p0_ : Nat) (p1_ : Nat) (p2_ : Int32) (p3_ : Int32) : Nat → Int32 → Hp → (Int32 → Hp → Option Hp) → Option Hp
  | 0, _, _, _ => none
  | n + 1, z3, h4, κ => if (256 : Int32) ≤ z3 then κ z3 h4 else (gR h4 p0_ 10 8).bind fun v6 => (aI h4 p1_ z3).bind fun v7 => (aIs h4 v6 (((256 : Int32) * (((4 : Int32) * p2_) + p3_)) + z3) v7).bind fun h8 => nm (z3 + (1 : Int32)) fun x9 => lX8_give_3 N p0_ p1_ p2_ p3_ n x9 h8 κ
def fX8_give (N : Nat) (a0 : Nat) (a1 : Nat) (a2 : Int32) (a3 : Int32) (h : Hp) : Option Hp := lX8_give_3 N a0 a1 a2 a3 N (0 : Int32) h (fun y1 h2 => some h2)
def lX8_takeOff_63 (N : Nat) (p0_ : Nat) (p1_ : Int32) (p2_ : Int32) (p3_ : Int32) (p4_ : Int32) (p5_ : Int32) (p6_ : Int32) (p7_ : Int32) (p8_ : Int64) : Nat → Int32 → Hp → (Int32 → Hp → Option Hp) → Option Hp
  | 0, _, _, _ => none
  | n + 1, z23, h24, κ => if (256 : Int32) ≤ (z23 + p7_) then κ z23 h24 else if (lg_cmp p8_ (0 : Int64)) ≤ 0 then κ z23 h24 else (gR h24 p0_ 10 8).bind fun v27 => (aI h24 v27 (p6_ + z23)).bind fun v28 => jn (fun h30 => nm (z23 + (1 : Int32)) fun x31 => lX8_takeOff_63 N p0_ p1_ p2_ p3_ p4_ p5_ p6_ p7_ p8_ n x31 h30 κ) fun (j29 : Hp → Option Hp) => if v28 = 0 then j29 h24 else (gR h24 p0_ 10 8).bind fun v33 => (gR h24 p0_ 10 8).bind fun v34 => (aI h24 v34 ((p5_ + z23) + p7_)).bind fun v35 => (gR h24 p0_ 10 8).bind fun v36 => (aI h24 v36 (p6_ + z23)).bind fun v37 => (fX8_modulo N ((v35.toInt64) - (p8_ * (v37.toInt64))) h24).bind fun (v38, h39) => (aIs h39 v33 ((p5_ + z23) + p7_) v38).bind fun h40 => j29 h40
def lX8_takeOff_44 (N : Nat) (p0_ : Nat) (p1_ : Int32) (p2_ : Int32) (p3_ : Int32) (p4_ : Int32) (p5_ : Int32) (p6_ : Int32) : Nat → Int32 → Hp → (Int32 → Hp → Option Hp) → Option Hp
  | 0, _, _, _ => none
  | n + 1, z14, h15, κ => if p3_ < z14 then κ z14 h15 else (gR h15 p0_ 10 12).bind fun v17 => (aI h15 v17 z14).bind fun v18 => nm (v18.toInt64) fun x19 => lX8_takeOff_63 N p0_ p1_ p2_ p3_ p4_ p5_ p6_ z14 x19 N (0 : Int32) h15 (fun y20 h21 => nm (z14 + (1 : Int32)) fun x22 => lX8_takeOff_44 N p0_ p1_ p2_ p3_ p4_ p5_ p6_ n x22 h21 κ)
def lX8_takeOff_11 (N : Nat) (p0_ : Nat) (p1_ : Int32) (p2_ : Int32) (p3_ : Int32) : Nat → Int32 → Hp → (Int32 → Hp → Option Hp) → Option Hp
  | 0, _, _, _ => none
  | n + 1, z6, h7, κ => if (4 : Int32) ≤ z6 then κ z6 h7 else nm ((256 : Int32) * (((4 : Int32) * p1_) + z6)) fun x9 => nm ((256 : Int32) * (((4 : Int32) * p2_) + z6)) fun x10 => lX8_takeOff_44 N p0_ p1_ p2_ p3_ z6 x9 x10 N (0 : Int32) h7 (fun y11 h12 => nm (z6 + (1 : Int32)) fun x13 => lX8_takeOff_11 N p0_ p1_ p2_ p3_ n x13 h12 κ)
def fX8_takeOff (N : Nat) (a0 : Nat) (a1 : Int32) (a2 : Int32) (h : Hp) : Option Hp := (gR h a0 10 12).bind fun v1 => (fX8_high N v1 h).bind fun (v2, h3) => lX8_takeOff_11 N a0 a1 a2 v2 N (0 : Int32) h3 (fun y4 h5 => some h5)
def lX8_exchange_2 (N : Nat) (p0_ : Nat) (p1_ : Int32) (p2_ : Int32) : Nat → Int32 → Hp → (Int32 → Hp → Option Hp) → Option Hp
  | 0, _, _, _ => none
  | n + 1, z3, h4, κ => if (1024 : Int32) ≤ z3 then κ z3 h4 else (gR h4 p0_ 10 8).bind fun v6 => (aI h4 v6 (((1024 : Int32) * p1_) + z3)).bind fun v7 => (gR h4 p0_ 10 8).bind fun v8 => (gR h4 p0_ 10 8).bind fun v9 => (aI h4 v9 (((1024 : Int32) * p2_) + z3)).bind fun v10 => (aIs h4 v8 (((1024 : Int32) * p1_) + z3) v10).bind fun h11 => (gR h11 p0_ 10 8).bind fun v12 => (aIs h11 v12 (((1024 : Int32) * p2_) + z3) v7).bind fun h13 => nm (z3 + (1 : Int32)) fun x14 => lX8_exchange_2 N p0_ p1_ p2_ n x14 h13 κ
def fX8_exchange (N : Nat) (a0 : Nat) (a1 : Int32) (a2 : Int32) (h : Hp) : Option Hp := lX8_exchange_2 N a0 a1 a2 N (0 : Int32) h (fun y1 h2 => some h2)
def fX8_isNone (N : Nat) (a0 : Nat) (a1 : Int32) (a2 : Int32) (h : Hp) : Option (Int32 × Hp) := (gR h a0 10 11).bind fun v1 => (cK h a0 10).bind fun u4 => (fX8_take N a0 v1 a1 a2 h).bind fun h3 => (gR h3 a0 10 11).bind fun v5 => (fX8_high N v5 h3).bind fun (v6, h7) => jn (fun t10 h9 => if t10 = 0 ∨ t10 = 1 then some (t10, h9) else none) fun (j8 : Int32 → Hp → Option (Int32 × Hp)) => if 0 ≤ v6 then j8 (0 : Int32) h7 else j8 (1 : Int32) h7
