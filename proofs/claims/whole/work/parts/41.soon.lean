theorem sy_Laws_holds_4_h4 {d : Nat} {Q : am_Q} {I : am_I} {L : am_L} {Lx : Nat} {ρ : List (Nat × Nat)} (x1 : Nat) (x2 : Int32) (x3 : Int32) (x4 : Value) (N1 : Nat) (o2 : (gg Lx ρ).2.1 x1 = .inr (0, N1)) (c0 : ¬ x3 < (Int32.ofNat N1)) (b : Q (some (.int 0)) I L (gg Lx ρ)) : am_W am_all (am_run (d + 1)) e_Laws_holds Q 4 [.ref 21, .ref x1, .int x2, .int x3, x4] [] I L (gg Lx ρ) 0 0 :=
  sy_Laws_holds_4 x1 x2 x3 x4 N1 o2 (fun _ => b) (fun z => absurd z c0) (fun z _ _ _ _ => absurd z c0) (fun z _ _ _ _ => absurd z c0) (fun z _ _ _ _ => absurd z c0) (fun z _ _ _ _ => absurd z c0) (fun z _ _ _ _ => absurd z c0) (fun z _ _ _ _ => absurd z c0) (fun z _ _ _ _ => absurd z c0) (fun z _ _ _ => absurd z c0) (fun z _ _ _ => absurd z c0) (fun z _ _ _ _ => absurd z c0) (fun z _ _ _ _ => absurd z c0) (fun z _ _ => absurd z c0) (fun z _ _ _ => absurd z c0) (fun z _ _ _ _ => absurd z c0) (fun z _ _ _ _ => absurd z c0) (fun z _ _ _ _ => absurd z c0) (fun z _ _ _ _ => absurd z c0) (fun z _ _ _ _ => absurd z c0)
theorem sy_Laws_holds_4_h15 {d : Nat} {Q : am_Q} {I : am_I} {L : am_L} {Lx : Nat} {ρ : List (Nat × Nat)} (x1 : Nat) (x2 : Int32) (x3 : Int32) (x4 : Value) (N1 : Nat) (o2 : (gg Lx ρ).2.1 x1 = .inr (0, N1)) (o6 : vp_in x3 N1) (o13 : vp_in ((x2 + (-1)) - 1) 60) (o14 : vp_in (x2 + (-1)) 60) (c0 : x3 < (Int32.ofNat N1)) (c1 : ¬ (I x1 (Int32.toNatClampNeg x3)) < 100009) (c2 : ¬ (I x1 (Int32.toNatClampNeg x3)) = 100021) (c3 : ¬ (I x1 (Int32.toNatClampNeg x3)) = 100020) (c4 : 1 < x2) (b : am_W am_all (am_run (d + 1)) e_Laws_holds Q 4 [.ref 21, .ref x1, .int (x2 + (-1)), .int (x3 + 1), .int (I x1 (Int32.toNatClampNeg x3))] [] I (am_u L 24 (Int32.toNatClampNeg ((x2 + (-1)) - 1)) (opC (I x1 (Int32.toNatClampNeg x3)) (L 24 (Int32.toNatClampNeg ((x2 + (-1)) - 1))) (L 24 (Int32.toNatClampNeg (x2 + (-1)))))) (gg Lx ρ) 0 0) : am_W am_all (am_run (d + 1)) e_Laws_holds Q 4 [.ref 21, .ref x1, .int x2, .int x3, x4] [] I L (gg Lx ρ) 0 0 :=
  sy_Laws_holds_4 x1 x2 x3 x4 N1 o2 (fun z => absurd c0 z) (fun _ => o6) (fun _ _ _ _ z => absurd c4 z) (fun _ _ _ _ _ => o13) (fun _ _ _ _ _ => o14) (fun _ _ _ _ _ => b) (fun _ _ _ z _ => absurd z c3) (fun _ _ _ z _ => absurd z c3) (fun _ _ _ z _ => absurd z c3) (fun _ _ z _ => absurd z c2) (fun _ _ z _ => absurd z c2) (fun _ _ z _ _ => absurd z c2) (fun _ _ z _ _ => absurd z c2) (fun _ z _ => absurd z c1) (fun _ z _ _ => absurd z c1) (fun _ z _ _ _ => absurd z c1) (fun _ z _ _ _ => absurd z c1) (fun _ z _ _ _ => absurd z c1) (fun _ z _ _ _ => absurd z c1) (fun _ z _ _ _ => absurd z c1)
theorem sy_Laws_holds_4_h21 {d : Nat} {Q : am_Q} {I : am_I} {L : am_L} {Lx : Nat} {ρ : List (Nat × Nat)} (x1 : Nat) (x2 : Int32) (x3 : Int32) (x4 : Value) (N1 : Nat) (o2 : (gg Lx ρ).2.1 x1 = .inr (0, N1)) (o6 : vp_in x3 N1) (o20 : vp_in (x2 - 1) 60) (c0 : x3 < (Int32.ofNat N1)) (c1 : ¬ (I x1 (Int32.toNatClampNeg x3)) < 100009) (c2 : ¬ (I x1 (Int32.toNatClampNeg x3)) = 100021) (c3 : (I x1 (Int32.toNatClampNeg x3)) = 100020) (c4 : 0 < x2) (b : am_W am_all (am_run (d + 1)) e_Laws_holds Q 4 [.ref 21, .ref x1, .int x2, .int (x3 + 1), .int (I x1 (Int32.toNatClampNeg x3))] [] I (am_u L 24 (Int32.toNatClampNeg (x2 - 1)) (1 - (L 24 (Int32.toNatClampNeg (x2 - 1))))) (gg Lx ρ) 0 0) : am_W am_all (am_run (d + 1)) e_Laws_holds Q 4 [.ref 21, .ref x1, .int x2, .int x3, x4] [] I L (gg Lx ρ) 0 0 :=
  sy_Laws_holds_4 x1 x2 x3 x4 N1 o2 (fun z => absurd c0 z) (fun _ => o6) (fun _ _ _ z _ => absurd c3 z) (fun _ _ _ z _ => absurd c3 z) (fun _ _ _ z _ => absurd c3 z) (fun _ _ _ z _ => absurd c3 z) (fun _ _ _ _ z => absurd c4 z) (fun _ _ _ _ _ => o20) (fun _ _ _ _ _ => b) (fun _ _ z _ => absurd z c2) (fun _ _ z _ => absurd z c2) (fun _ _ z _ _ => absurd z c2) (fun _ _ z _ _ => absurd z c2) (fun _ z _ => absurd z c1) (fun _ z _ _ => absurd z c1) (fun _ z _ _ _ => absurd z c1) (fun _ z _ _ _ => absurd z c1) (fun _ z _ _ _ => absurd z c1) (fun _ z _ _ _ => absurd z c1) (fun _ z _ _ _ => absurd z c1)
theorem sy_Laws_holds_4_h28 {d : Nat} {Q : am_Q} {I : am_I} {L : am_L} {Lx : Nat} {ρ : List (Nat × Nat)} (x1 : Nat) (x2 : Int32) (x3 : Int32) (x4 : Value) (N1 : Nat) (o2 : (gg Lx ρ).2.1 x1 = .inr (0, N1)) (o6 : vp_in x3 N1) (o26 : vp_in (x2 - 1) 60) (c0 : x3 < (Int32.ofNat N1)) (c1 : ¬ (I x1 (Int32.toNatClampNeg x3)) < 100009) (c2 : (I x1 (Int32.toNatClampNeg x3)) = 100021) (c3 : 0 < x2) (c4 : (L 24 (Int32.toNatClampNeg (x2 - 1))) = 0) (b : am_W am_all (am_run (d + 1)) e_Laws_holds Q 4 [.ref 21, .ref x1, .int 0, .int (x3 + 1), .int (I x1 (Int32.toNatClampNeg x3))] [] I L (gg Lx ρ) 0 0) : am_W am_all (am_run (d + 1)) e_Laws_holds Q 4 [.ref 21, .ref x1, .int x2, .int x3, x4] [] I L (gg Lx ρ) 0 0 :=
  sy_Laws_holds_4 x1 x2 x3 x4 N1 o2 (fun z => absurd c0 z) (fun _ => o6) (fun _ _ z _ _ => absurd c2 z) (fun _ _ z _ _ => absurd c2 z) (fun _ _ z _ _ => absurd c2 z) (fun _ _ z _ _ => absurd c2 z) (fun _ _ z _ _ => absurd c2 z) (fun _ _ z _ _ => absurd c2 z) (fun _ _ z _ _ => absurd c2 z) (fun _ _ _ z => absurd c3 z) (fun _ _ _ _ => o26) (fun _ _ _ _ _ => b) (fun _ _ _ _ z => absurd c4 z) (fun _ z _ => absurd z c1) (fun _ z _ _ => absurd z c1) (fun _ z _ _ _ => absurd z c1) (fun _ z _ _ _ => absurd z c1) (fun _ z _ _ _ => absurd z c1) (fun _ z _ _ _ => absurd z c1) (fun _ z _ _ _ => absurd z c1)
theorem sy_Laws_holds_4_h30 {d : Nat} {Q : am_Q} {I : am_I} {L : am_L} {Lx : Nat} {ρ : List (Nat × Nat)} (x1 : Nat) (x2 : Int32) (x3 : Int32) (x4 : Value) (N1 : Nat) (o2 : (gg Lx ρ).2.1 x1 = .inr (0, N1)) (o6 : vp_in x3 N1) (o26 : vp_in (x2 - 1) 60) (c0 : x3 < (Int32.ofNat N1)) (c1 : ¬ (I x1 (Int32.toNatClampNeg x3)) < 100009) (c2 : (I x1 (Int32.toNatClampNeg x3)) = 100021) (c3 : 0 < x2) (c4 : ¬ (L 24 (Int32.toNatClampNeg (x2 - 1))) = 0) (b : Q (some (.int 1)) I L (gg Lx ρ)) : am_W am_all (am_run (d + 1)) e_Laws_holds Q 4 [.ref 21, .ref x1, .int x2, .int x3, x4] [] I L (gg Lx ρ) 0 0 :=
  sy_Laws_holds_4 x1 x2 x3 x4 N1 o2 (fun z => absurd c0 z) (fun _ => o6) (fun _ _ z _ _ => absurd c2 z) (fun _ _ z _ _ => absurd c2 z) (fun _ _ z _ _ => absurd c2 z) (fun _ _ z _ _ => absurd c2 z) (fun _ _ z _ _ => absurd c2 z) (fun _ _ z _ _ => absurd c2 z) (fun _ _ z _ _ => absurd c2 z) (fun _ _ _ z => absurd c3 z) (fun _ _ _ _ => o26) (fun _ _ _ _ z => absurd z c4) (fun _ _ _ _ _ => b) (fun _ z _ => absurd z c1) (fun _ z _ _ => absurd z c1) (fun _ z _ _ _ => absurd z c1) (fun _ z _ _ _ => absurd z c1) (fun _ z _ _ _ => absurd z c1) (fun _ z _ _ _ => absurd z c1) (fun _ z _ _ _ => absurd z c1)
theorem sy_Laws_holds_4_h41 {d : Nat} {Q : am_Q} {I : am_I} {L : am_L} {Lx : Nat} {ρ : List (Nat × Nat)} (x1 : Nat) (x2 : Int32) (x3 : Int32) (x4 : Value) (N1 : Nat) (o2 : (gg Lx ρ).2.1 x1 = .inr (0, N1)) (o6 : vp_in x3 N1) (o39 : vp_in ((I x1 (Int32.toNatClampNeg x3)) - 100000) 9) (o40 : vp_in x2 60) (c0 : x3 < (Int32.ofNat N1)) (c1 : (I x1 (Int32.toNatClampNeg x3)) < 100009) (c2 : x2 < 60) (c3 : ¬ (I x1 (Int32.toNatClampNeg x3)) < 0) (c4 : ¬ (I x1 (Int32.toNatClampNeg x3)) < 100000) (b : am_W am_all (am_run (d + 1)) e_Laws_holds Q 4 [.ref 21, .ref x1, .int (x2 + 1), .int (x3 + 1), .int (I x1 (Int32.toNatClampNeg x3))] [] I (am_u L 24 (Int32.toNatClampNeg x2) (L 23 (Int32.toNatClampNeg ((I x1 (Int32.toNatClampNeg x3)) - 100000)))) (gg Lx ρ) 0 0) : am_W am_all (am_run (d + 1)) e_Laws_holds Q 4 [.ref 21, .ref x1, .int x2, .int x3, x4] [] I L (gg Lx ρ) 0 0 :=
  sy_Laws_holds_4 x1 x2 x3 x4 N1 o2 (fun z => absurd c0 z) (fun _ => o6) (fun _ z _ _ _ => absurd c1 z) (fun _ z _ _ _ => absurd c1 z) (fun _ z _ _ _ => absurd c1 z) (fun _ z _ _ _ => absurd c1 z) (fun _ z _ _ _ => absurd c1 z) (fun _ z _ _ _ => absurd c1 z) (fun _ z _ _ _ => absurd c1 z) (fun _ z _ _ => absurd c1 z) (fun _ z _ _ => absurd c1 z) (fun _ z _ _ _ => absurd c1 z) (fun _ z _ _ _ => absurd c1 z) (fun _ _ z => absurd c2 z) (fun _ _ _ z => absurd z c3) (fun _ _ _ _ _ => o39) (fun _ _ _ _ _ => o40) (fun _ _ _ _ _ => b) (fun _ _ _ _ z => absurd z c4) (fun _ _ _ _ z => absurd z c4)
theorem sy_Laws_holds_4_h44 {d : Nat} {Q : am_Q} {I : am_I} {L : am_L} {Lx : Nat} {ρ : List (Nat × Nat)} (x1 : Nat) (x2 : Int32) (x3 : Int32) (x4 : Value) (N1 : Nat) (o2 : (gg Lx ρ).2.1 x1 = .inr (0, N1)) (o6 : vp_in x3 N1) (o43 : vp_in x2 60) (c0 : x3 < (Int32.ofNat N1)) (c1 : (I x1 (Int32.toNatClampNeg x3)) < 100009) (c2 : x2 < 60) (c3 : ¬ (I x1 (Int32.toNatClampNeg x3)) < 0) (c4 : (I x1 (Int32.toNatClampNeg x3)) < 100000) (b : am_W am_all (am_run (d + 1)) e_Laws_holds Q 4 [.ref 21, .ref x1, .int (x2 + 1), .int (x3 + 1), .int (I x1 (Int32.toNatClampNeg x3))] [] I (am_u L 24 (Int32.toNatClampNeg x2) (Int32.toInt64 (I x1 (Int32.toNatClampNeg x3)))) (gg Lx ρ) 0 0) : am_W am_all (am_run (d + 1)) e_Laws_holds Q 4 [.ref 21, .ref x1, .int x2, .int x3, x4] [] I L (gg Lx ρ) 0 0 :=
  sy_Laws_holds_4 x1 x2 x3 x4 N1 o2 (fun z => absurd c0 z) (fun _ => o6) (fun _ z _ _ _ => absurd c1 z) (fun _ z _ _ _ => absurd c1 z) (fun _ z _ _ _ => absurd c1 z) (fun _ z _ _ _ => absurd c1 z) (fun _ z _ _ _ => absurd c1 z) (fun _ z _ _ _ => absurd c1 z) (fun _ z _ _ _ => absurd c1 z) (fun _ z _ _ => absurd c1 z) (fun _ z _ _ => absurd c1 z) (fun _ z _ _ _ => absurd c1 z) (fun _ z _ _ _ => absurd c1 z) (fun _ _ z => absurd c2 z) (fun _ _ _ z => absurd z c3) (fun _ _ _ _ z => absurd c4 z) (fun _ _ _ _ z => absurd c4 z) (fun _ _ _ _ z => absurd c4 z) (fun _ _ _ _ _ => o43) (fun _ _ _ _ _ => b)
theorem sy_Model_reckons_8_h3 {d : Nat} {Q : am_Q} {I : am_I} {L : am_L} {Lx : Nat} {ρ : List (Nat × Nat)} (x1 : Int32) (x2 : Int32) (x3 : Int32) (x4 : Int32) (x5 : Value) (x6 : Value) (x7 : Value) (x8 : Value) (x9 : Value) (x10 : Value) (o2 : vp_in ((I 186 24) - 1) 64) (c0 : ¬ x4 < x3) (b : Q (some (.long (L 196 (Int32.toNatClampNeg ((I 186 24) - 1))))) (am_u I 186 24 ((I 186 24) - 1)) L (gg Lx ρ)) : am_W am_all (am_run (d + 1)) e_Model_reckons Q 8 [.ref 186, .int x1, .int x2, .int x3, .int x4, x5, x6, x7, x8, x9, x10] [] I L (gg Lx ρ) 0 0 :=
  sy_Model_reckons_8 x1 x2 x3 x4 x5 x6 x7 x8 x9 x10 (fun _ => o2) (fun _ => b) (fun z => absurd z c0) (fun z _ _ _ => absurd z c0) (fun z _ _ _ => absurd z c0) (fun z _ _ _ => absurd z c0) (fun z _ _ _ => absurd z c0) (fun z _ _ _ => absurd z c0) (fun z _ _ => absurd z c0) (fun z _ _ => absurd z c0) (fun z _ _ => absurd z c0) (fun z _ => absurd z c0) (fun z _ => absurd z c0)
theorem sy_Model_reckons_8_h11 {d : Nat} {Q : am_Q} {I : am_I} {L : am_L} {Lx : Nat} {ρ : List (Nat × Nat)} (x1 : Int32) (x2 : Int32) (x3 : Int32) (x4 : Int32) (x5 : Value) (x6 : Value) (x7 : Value) (x8 : Value) (x9 : Value) (x10 : Value) (o5 : vp_in ((400 * x1) + x4) 2400) (o9 : vp_in ((I 186 24) - 1) 64) (o10 : vp_in (((I 186 24) - 1) - 1) 64) (c0 : x4 < x3) (c1 : ¬ ((I 188 (Int32.toNatClampNeg ((400 * x1) + x4))) &&& 15) = 0) (c2 : ¬ ((I 188 (Int32.toNatClampNeg ((400 * x1) + x4))) &&& 15) = 1) (c3 : ¬ ((I 188 (Int32.toNatClampNeg ((400 * x1) + x4))) &&& 15) = 11) (b : am_W am_all (am_run (d + 1)) e_Model_reckons Q 8 [.ref 186, .int x1, .int x2, .int x3, .int (x4 + 1), .int ((I 188 (Int32.toNatClampNeg ((400 * x1) + x4))) &&& 15), .int ((I 188 (Int32.toNatClampNeg ((400 * x1) + x4))) >>> (4 &&& 31)), .long (L 196 (Int32.toNatClampNeg ((I 186 24) - 1))), .null, .long (L 196 (Int32.toNatClampNeg (((I 186 24) - 1) - 1))), .null] [] (am_u (am_u (am_u I 186 24 ((I 186 24) - 1)) 186 24 (((I 186 24) - 1) - 1)) 186 24 ((((I 186 24) - 1) - 1) + 1)) (am_u L 196 (Int32.toNatClampNeg (((I 186 24) - 1) - 1)) (opM ((I 188 (Int32.toNatClampNeg ((400 * x1) + x4))) &&& 15) (L 196 (Int32.toNatClampNeg (((I 186 24) - 1) - 1))) (L 196 (Int32.toNatClampNeg ((I 186 24) - 1))))) (gg Lx ρ) 0 0) : am_W am_all (am_run (d + 1)) e_Model_reckons Q 8 [.ref 186, .int x1, .int x2, .int x3, .int x4, x5, x6, x7, x8, x9, x10] [] I L (gg Lx ρ) 0 0 :=
  sy_Model_reckons_8 x1 x2 x3 x4 x5 x6 x7 x8 x9 x10 (fun z => absurd c0 z) (fun z => absurd c0 z) (fun _ => o5) (fun _ _ _ _ => o9) (fun _ _ _ _ => o10) (fun _ _ _ _ => b) (fun _ _ _ z => absurd z c3) (fun _ _ _ z => absurd z c3) (fun _ _ z => absurd z c2) (fun _ _ z => absurd z c2) (fun _ _ z => absurd z c2) (fun _ z => absurd z c1) (fun _ z => absurd z c1)
theorem sy_Model_reckons_8_h14 {d : Nat} {Q : am_Q} {I : am_I} {L : am_L} {Lx : Nat} {ρ : List (Nat × Nat)} (x1 : Int32) (x2 : Int32) (x3 : Int32) (x4 : Int32) (x5 : Value) (x6 : Value) (x7 : Value) (x8 : Value) (x9 : Value) (x10 : Value) (o5 : vp_in ((400 * x1) + x4) 2400) (o13 : vp_in ((I 186 24) - 1) 64) (c0 : x4 < x3) (c1 : ¬ ((I 188 (Int32.toNatClampNeg ((400 * x1) + x4))) &&& 15) = 0) (c2 : ¬ ((I 188 (Int32.toNatClampNeg ((400 * x1) + x4))) &&& 15) = 1) (c3 : ((I 188 (Int32.toNatClampNeg ((400 * x1) + x4))) &&& 15) = 11) (b : am_W am_all (am_run (d + 1)) e_Model_reckons Q 8 [.ref 186, .int x1, .int x2, .int x3, .int (x4 + 1), .int ((I 188 (Int32.toNatClampNeg ((400 * x1) + x4))) &&& 15), .int ((I 188 (Int32.toNatClampNeg ((400 * x1) + x4))) >>> (4 &&& 31)), x7, x8, x9, x10] [] (am_u (am_u I 186 24 ((I 186 24) - 1)) 186 24 (((I 186 24) - 1) + 1)) (am_u L 196 (Int32.toNatClampNeg ((I 186 24) - 1)) (1 - (L 196 (Int32.toNatClampNeg ((I 186 24) - 1))))) (gg Lx ρ) 0 0) : am_W am_all (am_run (d + 1)) e_Model_reckons Q 8 [.ref 186, .int x1, .int x2, .int x3, .int x4, x5, x6, x7, x8, x9, x10] [] I L (gg Lx ρ) 0 0 :=
  sy_Model_reckons_8 x1 x2 x3 x4 x5 x6 x7 x8 x9 x10 (fun z => absurd c0 z) (fun z => absurd c0 z) (fun _ => o5) (fun _ _ _ z => absurd c3 z) (fun _ _ _ z => absurd c3 z) (fun _ _ _ z => absurd c3 z) (fun _ _ _ _ => o13) (fun _ _ _ _ => b) (fun _ _ z => absurd z c2) (fun _ _ z => absurd z c2) (fun _ _ z => absurd z c2) (fun _ z => absurd z c1) (fun _ z => absurd z c1)
theorem sy_Model_reckons_8_h18 {d : Nat} {Q : am_Q} {I : am_I} {L : am_L} {Lx : Nat} {ρ : List (Nat × Nat)} (x1 : Int32) (x2 : Int32) (x3 : Int32) (x4 : Int32) (x5 : Value) (x6 : Value) (x7 : Value) (x8 : Value) (x9 : Value) (x10 : Value) (o5 : vp_in ((400 * x1) + x4) 2400) (o16 : vp_in ((I 188 (Int32.toNatClampNeg ((400 * x1) + x4))) >>> (4 &&& 31)) 9) (o17 : vp_in (I 186 24) 64) (c0 : x4 < x3) (c1 : ¬ ((I 188 (Int32.toNatClampNeg ((400 * x1) + x4))) &&& 15) = 0) (c2 : ((I 188 (Int32.toNatClampNeg ((400 * x1) + x4))) &&& 15) = 1) (b : am_W am_all (am_run (d + 1)) e_Model_reckons Q 8 [.ref 186, .int x1, .int x2, .int x3, .int (x4 + 1), .int ((I 188 (Int32.toNatClampNeg ((400 * x1) + x4))) &&& 15), .int ((I 188 (Int32.toNatClampNeg ((400 * x1) + x4))) >>> (4 &&& 31)), x7, x8, x9, x10] [] (am_u I 186 24 ((I 186 24) + 1)) (am_u L 196 (Int32.toNatClampNeg (I 186 24)) (L 197 (Int32.toNatClampNeg ((I 188 (Int32.toNatClampNeg ((400 * x1) + x4))) >>> (4 &&& 31))))) (gg Lx ρ) 0 0) : am_W am_all (am_run (d + 1)) e_Model_reckons Q 8 [.ref 186, .int x1, .int x2, .int x3, .int x4, x5, x6, x7, x8, x9, x10] [] I L (gg Lx ρ) 0 0 :=
  sy_Model_reckons_8 x1 x2 x3 x4 x5 x6 x7 x8 x9 x10 (fun z => absurd c0 z) (fun z => absurd c0 z) (fun _ => o5) (fun _ _ z _ => absurd c2 z) (fun _ _ z _ => absurd c2 z) (fun _ _ z _ => absurd c2 z) (fun _ _ z _ => absurd c2 z) (fun _ _ z _ => absurd c2 z) (fun _ _ _ => o16) (fun _ _ _ => o17) (fun _ _ _ => b) (fun _ z => absurd z c1) (fun _ z => absurd z c1)
theorem sy_Model_reckons_8_h21 {d : Nat} {Q : am_Q} {I : am_I} {L : am_L} {Lx : Nat} {ρ : List (Nat × Nat)} (x1 : Int32) (x2 : Int32) (x3 : Int32) (x4 : Int32) (x5 : Value) (x6 : Value) (x7 : Value) (x8 : Value) (x9 : Value) (x10 : Value) (o5 : vp_in ((400 * x1) + x4) 2400) (o20 : vp_in (I 186 24) 64) (c0 : x4 < x3) (c1 : ((I 188 (Int32.toNatClampNeg ((400 * x1) + x4))) &&& 15) = 0) (b : am_W am_all (am_run (d + 1)) e_Model_reckons Q 8 [.ref 186, .int x1, .int x2, .int x3, .int (x4 + 1), .int ((I 188 (Int32.toNatClampNeg ((400 * x1) + x4))) &&& 15), .int ((I 188 (Int32.toNatClampNeg ((400 * x1) + x4))) >>> (4 &&& 31)), x7, x8, x9, x10] [] (am_u I 186 24 ((I 186 24) + 1)) (am_u L 196 (Int32.toNatClampNeg (I 186 24)) (Int32.toInt64 ((I 188 (Int32.toNatClampNeg ((400 * x1) + x4))) >>> (4 &&& 31)))) (gg Lx ρ) 0 0) : am_W am_all (am_run (d + 1)) e_Model_reckons Q 8 [.ref 186, .int x1, .int x2, .int x3, .int x4, x5, x6, x7, x8, x9, x10] [] I L (gg Lx ρ) 0 0 :=
  sy_Model_reckons_8 x1 x2 x3 x4 x5 x6 x7 x8 x9 x10 (fun z => absurd c0 z) (fun z => absurd c0 z) (fun _ => o5) (fun _ z _ _ => absurd c1 z) (fun _ z _ _ => absurd c1 z) (fun _ z _ _ => absurd c1 z) (fun _ z _ _ => absurd c1 z) (fun _ z _ _ => absurd c1 z) (fun _ z _ => absurd c1 z) (fun _ z _ => absurd c1 z) (fun _ z _ => absurd c1 z) (fun _ _ => o20) (fun _ _ => b)
section HLD
variable {d Lx : Nat} {ρ : List (Nat × Nat)} {I : am_I} {Q : am_Q}
theorem ev1_0 {w : Nat → Int64} {t : Nat} {st : List Int64} (h : t % 16 = 0) : ev1 w t st = lN (t / 16) :: st := if_pos h
theorem ev1_1 {w : Nat → Int64} {t : Nat} {st : List Int64} (h : t % 16 = 1) : ev1 w t st = w (t / 16) :: st := by
  unfold ev1; rw [if_neg (by omega), if_pos h]
theorem ev1_11 {w : Nat → Int64} {t : Nat} {x : Int64} {st : List Int64} (h : t % 16 = 11) : ev1 w t (x :: st) = (1 - x) :: st := by
  unfold ev1; rw [if_neg (by omega), if_neg (by omega), if_pos h]
theorem ev1_op {w : Nat → Int64} {t : Nat} {x y : Int64} {st : List Int64} (h : 2 ≤ t % 16) (h2 : t % 16 ≠ 11) : ev1 w t (y :: x :: st) = opM (nI (t % 16)) x y :: st := by
  unfold ev1; rw [if_neg (by omega), if_neg (by omega), if_neg h2]
theorem tkC_0 {t : Nat} (h : t % 16 = 0) : tkC t = t / 16 := if_pos h
theorem tkC_1 {t : Nat} (h : t % 16 = 1) : tkC t = 100000 + t / 16 := by
  unfold tkC; rw [if_neg (by omega), if_pos h]
theorem tkC_11 {t : Nat} (h : t % 16 = 11) : tkC t = 100020 := by
  unfold tkC; rw [if_neg (by omega), if_neg (by omega), if_pos h]
theorem tkC_op {t : Nat} (h : 2 ≤ t % 16) (h1 : t % 16 ≤ 13) (h2 : t % 16 ≠ 11) : 100009 ≤ tkC t ∧ tkC t ≤ 100019 ∧ ∀ l r, opC (nI (tkC t)) l r = opM (nI (t % 16)) l r := by
  unfold tkC
  rw [if_neg (by omega), if_neg (by omega), if_neg h2]
  by_cases h3 : t % 16 = 12
  · rw [if_pos h3, h3]; exact ⟨by omega, by omega, fun l r => opCM12 l r⟩
  · rw [if_neg h3]
    by_cases h4 : t % 16 = 13
    · rw [if_pos h4, h4]; exact ⟨by omega, by omega, fun l r => opCM13 l r⟩
    · rw [if_neg h4]; exact ⟨by omega, by omega, fun l r => opCM l r ⟨by omega, by omega⟩⟩
theorem hold_tok {c N i t : Nat} {w : Nat → Int64} {L : am_L} {bs bs' : List Bool} {st : List Int64} {v : Value} (hN : (gg Lx ρ).2.1 c = .inr (0, N)) (hN2 : N < 2 ^ 31) (hi : i < N) (hF : I c i = nI (tkC t)) (hty : ty1 t bs = some bs') (hst : tyS bs st) (hd0 : bs.length ≤ 60) (hd : bs'.length ≤ 60) (hL : stR (L 24) st) (hw : ∀ k, k < 9 → L 23 k = w k)
    (h : ∀ L' v', (∀ a, a ≠ 24 → L' a = L a) → stR (L' 24) (ev1 w t st) → am_W am_all (am_run (d + 1)) e_Laws_holds Q 4 [.ref 21, .ref c, .int (nI (ev1 w t st).length), .int (nI (i + 1)), v'] [] I L' (gg Lx ρ) 0 0) :
    am_W am_all (am_run (d + 1)) e_Laws_holds Q 4 [.ref 21, .ref c, .int (nI st.length), .int (nI i), v] [] I L (gg Lx ρ) 0 0 := by
  have ei : (nI i).toNatClampNeg = i := nI_clamp (by omega)
  have hF' : I c (nI i).toNatClampNeg = nI (tkC t) := by rw [ei]; exact hF
  have hlen := tyS_len hst
  have c0 : nI i < Int32.ofNat N := nI_lt hi hN2
  have o6 : vp_in (nI i) N := vp_in_nI hi hN2
  rcases ty1_cases hty with ⟨a, b, e⟩ | ⟨a, b, e⟩ | ⟨a0, s, e1, e2⟩ | ⟨a0, a, a2, a3, b, cc, s, e1, e2, a4⟩
  · subst e
    have ht := tkC_0 a
    have hl : st.length < 60 := by simp at hd; omega
    have es : (nI st.length).toNatClampNeg = st.length := nI_clamp (by omega)
    refine sy_Laws_holds_4_h44 c _ _ _ N hN o6 (vp_in_nI hl (by decide)) c0 (ltI hF' (b := 100009) rfl (by omega) (by decide)) (nI_lt hl (by decide)) (nltI0 hF' (by omega)) (ltI hF' (b := 100000) rfl (by omega) (by decide)) ?_
    rw [es, hF', nI_l (by omega), nI_1, nI_1, ht]
    have h := h (am_u L 24 st.length (lN (t / 16))) (.int (nI (t / 16))) (fun a ha => am_u_ne ha)
    rw [ev1_0 a] at h
    exact h ⟨am_u_at, stR_u (Nat.le_refl _) hL⟩
  · subst e
    have ht := tkC_1 a
    have hl : st.length < 60 := by simp at hd; omega
    have es : (nI st.length).toNatClampNeg = st.length := nI_clamp (by omega)
    have hsub : I c (nI i).toNatClampNeg - 100000 = nI (t / 16) := by
      rw [hF', ht, show (100000 : Int32) = nI 100000 from rfl, pk_sub (by omega), Nat.add_sub_cancel_left]
    refine sy_Laws_holds_4_h41 c _ _ _ N hN o6 (by rw [hsub]; exact vp_in_nI b (by decide)) (vp_in_nI hl (by decide)) c0 (ltI hF' (b := 100009) rfl (by omega) (by decide)) (nI_lt hl (by decide)) (nltI0 hF' (by omega)) (nltI hF' (b := 100000) rfl (by omega) (by omega)) ?_
    rw [es, hsub, nI_clamp (n := t / 16) (by omega), hw _ b, nI_1, nI_1]
    have h := h (am_u L 24 st.length (w (t / 16))) (.int (I c (nI i).toNatClampNeg)) (fun a ha => am_u_ne ha)
    rw [ev1_1 a] at h
    exact h ⟨am_u_at, stR_u (Nat.le_refl _) hL⟩
  · subst e1 e2
    have a : t % 16 = 11 := by omega
    have ht := tkC_11 a
    match st, hst, hL, hlen, h with
    | x :: st, hst, hL, hlen, h =>
      have hl : st.length < 60 := by simp at hd hlen; omega
      have e1 : nI (x :: st).length - 1 = nI st.length := nI_pred _
      refine sy_Laws_holds_4_h21 c _ _ _ N hN o6 (by rw [e1]; exact vp_in_nI hl (by decide)) c0 (nltI hF' (b := 100009) rfl (by omega) (by omega)) (neI hF' (b := 100021) rfl (by omega) (by omega) (by decide)) (hF'.trans (by rw [ht]; rfl)) (ltI (a := 0) rfl rfl (by simp) (by simp; omega)) ?_
      rw [e1, nI_clamp (n := st.length) (by omega), hL.1, nI_1]
      have h := h (am_u L 24 st.length (1 - x)) (.int (I c (nI i).toNatClampNeg)) (fun a ha => am_u_ne ha)
      rw [ev1_11 a] at h
      exact h ⟨am_u_at, stR_u (Nat.le_refl _) hL.2⟩
  · subst e1 e2
    obtain ⟨t1, t2, t3⟩ := tkC_op a a2 a3
    match st, hst, hL, hlen, h with
    | y :: x :: st, hst, hL, hlen, h =>
      have hl : st.length < 60 := by simp at hd hlen; omega
      have hl3 : st.length + 1 < 60 := by simp at hlen hd0; omega
      have e1 : nI (y :: x :: st).length + (-1) = nI (st.length + 1) := pk_m1 _
      have e2 : nI (st.length + 1) - 1 = nI st.length := nI_pred _
      refine sy_Laws_holds_4_h15 c _ _ _ N hN o6 (by rw [e1, e2]; exact vp_in_nI hl (by decide)) (by rw [e1]; exact vp_in_nI hl3 (by decide)) c0 (nltI hF' (b := 100009) rfl (by omega) (by omega)) (neI hF' (b := 100021) rfl (by omega) (by omega) (by decide)) (neI hF' (b := 100020) rfl (by omega) (by omega) (by decide)) (ltI (a := 1) rfl rfl (by simp) (by simp; omega)) ?_
      rw [e1, e2, nI_clamp (n := st.length) (by omega), nI_clamp (n := st.length + 1) (by omega), nI_1, hF', t3]
      have g1 : L 24 (st.length + 1) = y := hL.1
      have g2 : L 24 st.length = x := hL.2.1
      rw [g1, g2]
      have h := h (am_u L 24 st.length (opM (nI (t % 16)) x y)) (.int (nI (tkC t))) (fun a ha => am_u_ne ha)
      rw [ev1_op a a3] at h
      exact h ⟨am_u_at, stR_u (Nat.le_refl _) hL.2.2⟩
theorem hold_toks {c N : Nat} {w : Nat → Int64} (hN : (gg Lx ρ).2.1 c = .inr (0, N)) (hN2 : N < 2 ^ 31) : ∀ (ts : List Nat) (i : Nat) (L : am_L) (bs bs' : List Bool) (st : List Int64) (v : Value), i + ts.length ≤ N → segAt (I c) i (ts.map tkC) → tyA ts bs = some bs' → tyS bs st → bs.length + cntV ts ≤ 60 → stR (L 24) st → (∀ k, k < 9 → L 23 k = w k) →
    (∀ L' v', (∀ a, a ≠ 24 → L' a = L a) → stR (L' 24) (ev w ts st) → am_W am_all (am_run (d + 1)) e_Laws_holds Q 4 [.ref 21, .ref c, .int (nI (ev w ts st).length), .int (nI (i + ts.length)), v'] [] I L' (gg Lx ρ) 0 0) →
    am_W am_all (am_run (d + 1)) e_Laws_holds Q 4 [.ref 21, .ref c, .int (nI st.length), .int (nI i), v] [] I L (gg Lx ρ) 0 0
  | [], i, L, bs, bs', st, v, _, _, _, _, _, hL, _, h => h L v (fun _ _ => rfl) hL
  | t :: ts, i, L, bs, bs', st, v, hi, hs, hty, hst, hd, hL, hw, h => by
    have hty : (ty1 t bs).bind (tyA ts) = some bs' := hty
    cases e : ty1 t bs with
    | none => rw [e] at hty; exact absurd hty (by simp)
    | some b1 =>
      rw [e] at hty
      have h1 := ty1_len e
      have hd' : bs.length + ((if t % 16 ≤ 1 then 1 else 0) + cntV ts) ≤ 60 := hd
      simp only [List.length_cons] at hi
      refine hold_tok hN hN2 (by omega) hs.1 e hst (by omega) (by omega) hL hw (fun L1 v1 f1 g1 => ?_)
      refine hold_toks (w := w) hN hN2 ts (i + 1) L1 b1 bs' _ v1 (by omega) hs.2 hty (ev1_ty e hst) (by omega) g1 (fun k hk => by rw [f1 23 (by decide)]; exact hw k hk) (fun L2 v2 f2 g2 => ?_)
      rw [show i + 1 + ts.length = i + (t :: ts).length by simp; omega]
      exact h L2 v2 (fun a ha => (f2 a ha).trans (f1 a ha)) g2
def rcC (s : Nat) : List (Nat × List Nat) → List Nat
  | [] => []
  | c :: R => (if c.1 = s then c.2.map tkC ++ [100021] else []) ++ rcC s R
def rv (s : Nat) (w : Nat → Int64) : List (Nat × List Nat) → Bool
  | [] => false
  | c :: R => (decide (c.1 = s) && decide (ev w c.2 [] = [1])) || rv s w R
def wfC (c : Nat × List Nat) : Prop := tyA c.2 [] = some [true] ∧ cntV c.2 ≤ 60
theorem wfC_ev {c : Nat × List Nat} (h : wfC c) (w : Nat → Int64) : ev w c.2 [] = [0] ∨ ev w c.2 [] = [1] := by
  have h1 := ev_ty (w := w) (st := []) h.1 trivial
  generalize ev w c.2 [] = e at h1
  match e, h1 with
  | [x], h1 =>
    rcases h1.1 rfl with z | z
    · exact Or.inl (by rw [z])
    · exact Or.inr (by rw [z])
theorem hold_cls {c N s : Nat} {w : Nat → Int64} (hN : (gg Lx ρ).2.1 c = .inr (0, N)) (hN2 : N < 2 ^ 31) : ∀ (R : List (Nat × List Nat)) (i : Nat) (L : am_L) (v : Value), i + (rcC s R).length = N → segAt (I c) i (rcC s R) → (∀ c ∈ R, wfC c) → (∀ k, k < 9 → L 23 k = w k) →
    (∀ L', (∀ a, a ≠ 24 → L' a = L a) → Q (some (.int (bI (rv s w R = true)))) I L' (gg Lx ρ)) →
    am_W am_all (am_run (d + 1)) e_Laws_holds Q 4 [.ref 21, .ref c, .int 0, .int (nI i), v] [] I L (gg Lx ρ) 0 0
  | [], i, L, v, hi, _, _, _, h => by
    have hi : i = N := hi
    subst hi
    exact sy_Laws_holds_4_h4 c _ _ _ i hN (nI_nlt (Nat.le_refl _) hN2) (h L (fun _ _ => rfl))
  | cl :: R, i, L, v, hi, hs, hwf, hw, h => by
    unfold rv at h
    unfold rcC at hi hs
    by_cases e : cl.1 = s
    · rw [if_pos e] at hi hs
      rw [segAt_app, segAt_app] at hs
      simp only [List.length_append, List.length_map, List.length_singleton] at hi hs
      have wf1 := hwf cl List.mem_cons_self
      refine hold_toks (w := w) hN hN2 cl.2 i L [] [true] [] v (by omega) hs.1.1 wf1.1 trivial (by have := wf1.2; simp; omega) trivial hw (fun L1 v1 f1 g1 => ?_)
      have hc : I c (i + cl.2.length) = nI 100021 := hs.1.2.1
      have ei : (nI (i + cl.2.length)).toNatClampNeg = i + cl.2.length := nI_clamp (by omega)
      have hF' : I c (nI (i + cl.2.length)).toNatClampNeg = nI 100021 := by rw [ei]; exact hc
      have c0 : nI (i + cl.2.length) < Int32.ofNat N := nI_lt (by omega) hN2
      have o6 : vp_in (nI (i + cl.2.length)) N := vp_in_nI (by omega) hN2
      rcases wfC_ev wf1 w with z | z
      · rw [z] at g1 ⊢
        refine sy_Laws_holds_4_h28 c _ _ _ N hN o6 (vp_in_nI (n := 0) (by decide) (by decide)) c0 (nltI hF' (b := 100009) rfl (by omega) (by omega)) hF' (by decide) ?_ ?_
        · exact g1.1
        · rw [nI_1]
          refine hold_cls (s := s) (w := w) hN hN2 R _ L1 _ (by omega) (by rw [show i + cl.2.length + 1 = i + (cl.2.length + 1) by omega]; exact hs.2) (fun c hc => hwf c (List.mem_cons_of_mem _ hc)) (fun k hk => by rw [f1 23 (by decide)]; exact hw k hk) (fun L2 f2 => ?_)
          have h := h L2 (fun a ha => (f2 a ha).trans (f1 a ha))
          rw [z, show decide (([0] : List Int64) = [1]) = false from by decide, Bool.and_false, Bool.false_or] at h
          exact h
      · rw [z] at g1 ⊢
        refine sy_Laws_holds_4_h30 c _ _ _ N hN o6 (vp_in_nI (n := 0) (by decide) (by decide)) c0 (nltI hF' (b := 100009) rfl (by omega) (by omega)) hF' (by decide) ?_ ?_
        · intro q
          have : (0 : Int64) = 1 := q.symm.trans g1.1
          exact absurd this (by decide)
        · have h := h L1 f1
          rw [z, show decide (([1] : List Int64) = [1]) = true from by decide, decide_eq_true e, Bool.true_and, Bool.true_or, bI_t rfl] at h
          exact h
    · rw [if_neg e] at hi hs
      refine hold_cls (s := s) (w := w) hN hN2 R i L v hi hs (fun c hc => hwf c (List.mem_cons_of_mem _ hc)) hw (fun L2 f2 => ?_)
      have h := h L2 f2
      rw [decide_eq_false e, Bool.false_and, Bool.false_or] at h
      exact h
theorem sp_Laws_holds {c N s : Nat} {w : Nat → Int64} {R : List (Nat × List Nat)} {L : am_L} (hN : (gg Lx ρ).2.1 c = .inr (0, N)) (hN2 : N < 2 ^ 31) (hl : (rcC s R).length = N) (hs : segAt (I c) 0 (rcC s R)) (hwf : ∀ c ∈ R, wfC c) (hw : ∀ k, k < 9 → L 23 k = w k)
    (h : ∀ L', (∀ a, a ≠ 24 → L' a = L a) → Q (some (.int (bI (rv s w R = true)))) I L' (gg Lx ρ)) : am_run (d + 2) m_Laws_holds [.ref 21, .ref c] I L (gg Lx ρ) Q :=
  run_in rfl rfl ⟨rfl, rfl⟩ (sy_Laws_holds_0 c (hold_cls (s := s) hN hN2 R 0 L _ (by omega) hs hwf hw h))
end HLD
section RCK
variable {d Lx : Nat} {ρ : List (Nat × Nat)} {Q : am_Q}
/-- nothing but the reference's top is changed -/
def fr24 (I I' : am_I) : Prop := ∀ a j, ¬ (a = 186 ∧ j = 24) → I' a j = I a j
theorem fr24.rf {I : am_I} : fr24 I I := fun _ _ _ => rfl
theorem fr24.tr {I I' I2 : am_I} (h : fr24 I I') (g : fr24 I' I2) : fr24 I I2 := fun a j z => (g a j z).trans (h a j z)
theorem fr24.c {I I' : am_I} (h : fr24 I I') {a : Nat} (ha : a ≠ 186) : I' a = I a := funext fun j => h a j fun z => ha z.1
theorem fr24.u {I I' : am_I} (h : fr24 I I') {v : Int32} : fr24 I (am_u I' 186 24 v) := fun a j z => by
  by_cases e : a = 186
  · subst e
    rw [am_u_nk (fun e2 => z ⟨rfl, e2⟩)]; exact h _ _ z
  · rw [am_u_ne e]; exact h _ _ z
theorem k400 (k i : Nat) : (400 * nI k) + nI i = nI (400 * k + i) := by
  rw [show (400 : Int32) = nI 400 from rfl, pk_mul, nI_add]
theorem k36 (k i : Nat) : (36 * nI k) + (3 * nI i) = nI (36 * k + 3 * i) := by
  rw [show (36 : Int32) = nI 36 from rfl, show (3 : Int32) = nI 3 from rfl, pk_mul, pk_mul, nI_add]
theorem reck_tok {I : am_I} {L : am_L} {k i e t : Nat} {w : Nat → Int64} {bs bs' : List Bool} {st : List Int64} {x2 : Int32} {v5 v6 v7 v8 v9 v10 : Value} (hk : k < 6) (hi : i < e) (he : e ≤ 400) (hF : I 188 (400 * k + i) = nI t) (hty : ty1 t bs = some bs') (hst : tyS bs st) (hd0 : bs.length ≤ 60) (hd : bs'.length ≤ 60) (htop : I 186 24 = nI st.length) (hL : stR (L 196) st) (hw : ∀ k, k < 9 → L 197 k = w k)
    (h : ∀ I' L' v5 v6 v7 v8 v9 v10, fr24 I I' → I' 186 24 = nI (ev1 w t st).length → (∀ a, a ≠ 196 → L' a = L a) → stR (L' 196) (ev1 w t st) → am_W am_all (am_run (d + 1)) e_Model_reckons Q 8 [.ref 186, .int (nI k), .int x2, .int (nI e), .int (nI (i + 1)), v5, v6, v7, v8, v9, v10] [] I' L' (gg Lx ρ) 0 0) :
    am_W am_all (am_run (d + 1)) e_Model_reckons Q 8 [.ref 186, .int (nI k), .int x2, .int (nI e), .int (nI i), v5, v6, v7, v8, v9, v10] [] I L (gg Lx ρ) 0 0 := by
  have ei : I 188 ((400 * nI k) + nI i).toNatClampNeg = nI t := by rw [k400, nI_clamp (by omega)]; exact hF
  have ht := ty1_lt hty
  have e15 : I 188 ((400 * nI k) + nI i).toNatClampNeg &&& 15 = nI (t % 16) := by rw [ei]; exact pk_andN (by omega) 4 (by decide)
  have e4 : I 188 ((400 * nI k) + nI i).toNatClampNeg >>> (4 &&& 31) = nI (t / 16) := by rw [ei]; exact pk_shrN (by omega) _ 4 (by decide)
  have c0 : nI i < nI e := nI_lt hi (by omega)
  have o5 : vp_in ((400 * nI k) + nI i) 2400 := by rw [k400]; exact vp_in_nI (by omega) (by decide)
  have hlen := tyS_len hst
  rcases ty1_cases hty with ⟨a, b, e⟩ | ⟨a, b, e⟩ | ⟨a0, s, e1, e2⟩ | ⟨a0, a, a2, a3, b, cc, s, e1, e2, a4⟩
  · subst e
    refine sy_Model_reckons_8_h21 _ _ _ _ _ _ _ _ _ _ o5 (by rw [htop]; exact vp_in_nI (by omega) (by decide)) c0 (by rw [e15, a]; rfl) ?_
    rw [htop, nI_clamp (by omega), nI_1, nI_1]
    have h := h (am_u I 186 24 (nI (st.length + 1))) (am_u L 196 st.length (Int32.toInt64 (I 188 ((400 * nI k) + nI i).toNatClampNeg >>> (4 &&& 31)))) (.int (I 188 ((400 * nI k) + nI i).toNatClampNeg &&& 15)) (.int (I 188 ((400 * nI k) + nI i).toNatClampNeg >>> (4 &&& 31))) v7 v8 v9 v10 fr24.rf.u
    rw [ev1_0 a, e4, nI_l (by omega)] at h
    rw [e4, nI_l (by omega)]
    exact h am_u_at (fun a ha => am_u_ne ha) ⟨am_u_at, stR_u (Nat.le_refl _) hL⟩
  · subst e
    refine sy_Model_reckons_8_h18 _ _ _ _ _ _ _ _ _ _ o5 (by rw [e4]; exact vp_in_nI b (by decide)) (by rw [htop]; exact vp_in_nI (by omega) (by decide)) c0 (by rw [e15, a]; decide) (by rw [e15, a]; rfl) ?_
    rw [htop, nI_clamp (n := st.length) (by omega), nI_1, nI_1]
    have h := h (am_u I 186 24 (nI (st.length + 1))) (am_u L 196 st.length (L 197 (Int32.toNatClampNeg (I 188 ((400 * nI k) + nI i).toNatClampNeg >>> (4 &&& 31))))) (.int (I 188 ((400 * nI k) + nI i).toNatClampNeg &&& 15)) (.int (I 188 ((400 * nI k) + nI i).toNatClampNeg >>> (4 &&& 31))) v7 v8 v9 v10 fr24.rf.u
    rw [ev1_1 a, e4, nI_clamp (n := t / 16) (by omega), hw _ b] at h
    rw [e4, nI_clamp (n := t / 16) (by omega), hw _ b]
    exact h am_u_at (fun a ha => am_u_ne ha) ⟨am_u_at, stR_u (Nat.le_refl _) hL⟩
  · subst e1 e2
    have a : t % 16 = 11 := by omega
    match st, hst, hL, hlen, htop, h with
    | x :: st, hst, hL, hlen, htop, h =>
      have e1 : I 186 24 - 1 = nI st.length := by rw [htop]; exact nI_pred _
      have hl : st.length < 60 := by simp at hd hlen; omega
      refine sy_Model_reckons_8_h14 _ _ _ _ _ _ _ _ _ _ o5 (by rw [e1]; exact vp_in_nI (by omega) (by decide)) c0 (by rw [e15, a]; decide) (by rw [e15, a]; decide) (by rw [e15, a]; rfl) ?_
      rw [e1, nI_clamp (n := st.length) (by omega), hL.1, nI_1, nI_1]
      have h := h (am_u (am_u I 186 24 (nI st.length)) 186 24 (nI (st.length + 1))) (am_u L 196 st.length (1 - x)) (.int (I 188 ((400 * nI k) + nI i).toNatClampNeg &&& 15)) (.int (I 188 ((400 * nI k) + nI i).toNatClampNeg >>> (4 &&& 31))) v7 v8 v9 v10 fr24.rf.u.u
      rw [ev1_11 a] at h
      exact h am_u_at (fun a ha => am_u_ne ha) ⟨am_u_at, stR_u (Nat.le_refl _) hL.2⟩
  · subst e1 e2
    match st, hst, hL, hlen, htop, h with
    | y :: x :: st, hst, hL, hlen, htop, h =>
      have e1 : I 186 24 - 1 = nI (st.length + 1) := by rw [htop]; exact nI_pred _
      have e2 : nI (st.length + 1) - 1 = nI st.length := nI_pred _
      have hl : st.length + 1 < 60 := by simp at hd0 hlen; omega
      have g1 : L 196 (st.length + 1) = y := hL.1
      have g2 : L 196 st.length = x := hL.2.1
      refine sy_Model_reckons_8_h11 _ _ _ _ _ _ _ _ _ _ o5 (by rw [e1]; exact vp_in_nI (by omega) (by decide)) (by rw [e1, e2]; exact vp_in_nI (by omega) (by decide)) c0 (by rw [e15]; exact neI rfl (b := 0) rfl (by omega) (by omega) (by decide)) (by rw [e15]; exact neI rfl (b := 1) rfl (by omega) (by omega) (by decide)) (by rw [e15]; exact neI rfl (b := 11) rfl (by omega) (by omega) (by decide)) ?_
      rw [e1, e2, nI_clamp (n := st.length) (by omega), nI_clamp (n := st.length + 1) (by omega), g1, g2, nI_1, nI_1]
      have h := h (am_u (am_u (am_u I 186 24 (nI (st.length + 1))) 186 24 (nI st.length)) 186 24 (nI (st.length + 1))) (am_u L 196 st.length (opM (I 188 ((400 * nI k) + nI i).toNatClampNeg &&& 15) x y)) (.int (I 188 ((400 * nI k) + nI i).toNatClampNeg &&& 15)) (.int (I 188 ((400 * nI k) + nI i).toNatClampNeg >>> (4 &&& 31))) (.long y) .null (.long x) .null fr24.rf.u.u.u
      rw [ev1_op a a3] at h
      exact h am_u_at (fun a ha => am_u_ne ha) ⟨by rw [e15]; exact am_u_at, stR_u (Nat.le_refl _) hL.2.2⟩
theorem reck_toks {k e : Nat} {w : Nat → Int64} {x2 : Int32} (hk : k < 6) (he : e ≤ 400) : ∀ (ts : List Nat) (i : Nat) (I : am_I) (L : am_L) (bs bs' : List Bool) (st : List Int64) (v5 v6 v7 v8 v9 v10 : Value), i + ts.length ≤ e → segAt (I 188) (400 * k + i) ts → tyA ts bs = some bs' → tyS bs st → bs.length + cntV ts ≤ 60 → I 186 24 = nI st.length → stR (L 196) st → (∀ k, k < 9 → L 197 k = w k) →
    (∀ I' L' v5 v6 v7 v8 v9 v10, fr24 I I' → I' 186 24 = nI (ev w ts st).length → (∀ a, a ≠ 196 → L' a = L a) → stR (L' 196) (ev w ts st) → am_W am_all (am_run (d + 1)) e_Model_reckons Q 8 [.ref 186, .int (nI k), .int x2, .int (nI e), .int (nI (i + ts.length)), v5, v6, v7, v8, v9, v10] [] I' L' (gg Lx ρ) 0 0) →
    am_W am_all (am_run (d + 1)) e_Model_reckons Q 8 [.ref 186, .int (nI k), .int x2, .int (nI e), .int (nI i), v5, v6, v7, v8, v9, v10] [] I L (gg Lx ρ) 0 0
  | [], i, I, L, bs, bs', st, v5, v6, v7, v8, v9, v10, _, _, _, _, _, ht, hL, _, h => h I L v5 v6 v7 v8 v9 v10 fr24.rf ht (fun _ _ => rfl) hL
  | t :: ts, i, I, L, bs, bs', st, v5, v6, v7, v8, v9, v10, hi, hs, hty, hst, hd, htp, hL, hw, h => by
    have hty : (ty1 t bs).bind (tyA ts) = some bs' := hty
    cases e1 : ty1 t bs with
    | none => rw [e1] at hty; exact absurd hty (by simp)
    | some b1 =>
      rw [e1] at hty
      have h1 := ty1_len e1
      have hd' : bs.length + ((if t % 16 ≤ 1 then 1 else 0) + cntV ts) ≤ 60 := hd
      simp only [List.length_cons] at hi
      refine reck_tok hk (by omega) he hs.1 e1 hst (by omega) (by omega) htp hL hw (fun I1 L1 u5 u6 u7 u8 u9 u10 f1 t1 l1 g1 => ?_)
      refine reck_toks (w := w) hk he ts (i + 1) I1 L1 b1 bs' _ u5 u6 u7 u8 u9 u10 (by omega) (by rw [f1.c (by decide)]; exact hs.2) hty (ev1_ty e1 hst) (by omega) t1 g1 (fun k hk => by rw [l1 197 (by decide)]; exact hw k hk) (fun I2 L2 z5 z6 z7 z8 z9 z10 f2 t2 l2 g2 => ?_)
      rw [show i + 1 + ts.length = i + (t :: ts).length by simp; omega]
      exact h I2 L2 z5 z6 z7 z8 z9 z10 (f1.tr f2) t2 (fun a ha => (l2 a ha).trans (l1 a ha)) g2
theorem sp_Model_reckons {I : am_I} {L : am_L} {k b : Nat} {c : Nat × List Nat} {w : Nat → Int64} {z : Int64} (hk : k < 6) (hb : b + c.2.length ≤ 400) (hs : segAt (I 188) (400 * k + b) c.2) (hwf : wfC c) (hw : ∀ k, k < 9 → L 197 k = w k) (hz : ev w c.2 [] = [z])
    (h : ∀ I' L', fr24 I I' → (∀ a, a ≠ 196 → L' a = L a) → Q (some (.long z)) I' L' (gg Lx ρ)) : am_run (d + 2) m_Model_reckons [.ref 186, .int (nI k), .int (nI b), .int (nI (b + c.2.length))] I L (gg Lx ρ) Q := by
  refine run_in rfl rfl ⟨rfl, rfl⟩ (sy_Model_reckons_0 _ _ _ (reck_toks (w := w) hk hb c.2 b (am_u I 186 24 0) L [] [true] [] _ _ _ _ _ _ (Nat.le_refl _) (by rw [am_u_ne (by decide)]; exact hs) hwf.1 trivial (by have := hwf.2; simp; omega) am_u_at trivial hw (fun I1 L1 v5 v6 v7 v8 v9 v10 f1 t1 l1 g1 => ?_)))
  rw [hz] at t1 g1
  have e1 : I1 186 24 - 1 = nI 0 := by rw [t1]; exact nI_pred _
  refine sy_Model_reckons_8_h3 _ _ _ _ _ _ _ _ _ _ (by rw [e1]; exact vp_in_nI (by decide) (by decide)) (nI_nlt (Nat.le_refl _) (by omega)) ?_
  rw [e1, nI_clamp (by decide)]
  have : L1 196 0 = z := g1.1
  rw [this]
  exact h _ _ ((fr24.rf.u.tr f1).u) l1
/-- the reference's clauses of a rule -/
def clsAt (I : am_I) (k : Nat) : Nat → List (Nat × List Nat) → Prop
  | _, [] => True
  | j, c :: R => (∃ b, b + c.2.length ≤ 400 ∧ I 190 (36 * k + 3 * j) = nI c.1 ∧ I 190 (36 * k + 3 * j + 1) = nI b ∧ I 190 (36 * k + 3 * j + 2) = nI (b + c.2.length) ∧ segAt (I 188) (400 * k + b) c.2) ∧ clsAt I k (j + 1) R
theorem clsAt_c {I I' : am_I} {k : Nat} (h8 : I' 188 = I 188) (h9 : I' 190 = I 190) : ∀ {R : List (Nat × List Nat)} {j : Nat}, clsAt I k j R → clsAt I' k j R
  | [], _, _ => trivial
  | c :: R, j, ⟨⟨b, b1, b2, b3, b4, b5⟩, h⟩ => ⟨⟨b, b1, by rw [h9]; exact b2, by rw [h9]; exact b3, by rw [h9]; exact b4, by rw [h8]; exact b5⟩, clsAt_c h8 h9 h⟩
theorem isSo_cls {k n s : Nat} {w : Nat → Int64} {x2 x3 x4 x5 : Int32} (hk : k < 6) (hs : s ≤ 1) (hn : n ≤ 12) : ∀ (R : List (Nat × List Nat)) (j : Nat) (I : am_I) (L : am_L) (v : Value), j + R.length = n → I 191 k = nI n → clsAt I k j R → (∀ c ∈ R, wfC c ∧ c.1 ≤ 1) → (∀ k, k < 9 → L 197 k = w k) →
    (∀ I' L', fr24 I I' → (∀ a, a ≠ 196 → L' a = L a) → Q (some (.int (bI (rv s w R = true)))) I' L' (gg Lx ρ)) →
    am_W am_all (am_run (d + 2)) e_Model_isSo Q 114 [.ref 186, .int (nI s), .int x2, .int x3, .int x4, .int x5, .int (nI k), .int (nI j), v] [] I L (gg Lx ρ) 0 0
  | [], j, I, L, v, hj, hn1, _, _, _, h => by
    have hj : j = n := hj
    subst hj
    have e : I 191 (nI k).toNatClampNeg = nI j := by rw [nI_clamp (by omega)]; exact hn1
    exact sy_Model_isSo_114 _ _ _ _ _ _ _ _ (vp_in_nI hk (by decide)) (fun _ => h I L fr24.rf (fun _ _ => rfl)) (fun z => absurd z (by rw [e]; exact nI_nlt (Nat.le_refl _) (by omega))) (fun z => absurd z (by rw [e]; exact nI_nlt (Nat.le_refl _) (by omega))) (fun z => absurd z (by rw [e]; exact nI_nlt (Nat.le_refl _) (by omega))) (fun z => absurd z (by rw [e]; exact nI_nlt (Nat.le_refl _) (by omega))) (fun z => absurd z (by rw [e]; exact nI_nlt (Nat.le_refl _) (by omega)))
  | c :: R, j, I, L, v, hj, hn1, ⟨⟨b, b1, b2, b3, b4, b5⟩, hcl⟩, hwf, hw, h => by
    simp only [List.length_cons] at hj
    have e : I 191 (nI k).toNatClampNeg = nI n := by rw [nI_clamp (by omega)]; exact hn1
    have c0 : nI j < I 191 (nI k).toNatClampNeg := by rw [e]; exact nI_lt (by omega) (by omega)
    have q0 : I 190 (Int32.toNatClampNeg ((36 * nI k) + (3 * nI j))) = nI c.1 := by rw [k36, nI_clamp (by omega)]; exact b2
    have q1 : I 190 (Int32.toNatClampNeg (((36 * nI k) + (3 * nI j)) + 1)) = nI b := by rw [k36, nI_1, nI_clamp (by omega)]; exact b3
    have q2 : I 190 (Int32.toNatClampNeg (((36 * nI k) + (3 * nI j)) + 2)) = nI (b + c.2.length) := by rw [k36, show (2 : Int32) = nI 2 from rfl, nI_add, nI_clamp (by omega)]; exact b4
    obtain ⟨wf1, wf2⟩ := hwf c List.mem_cons_self
    have hwf' : ∀ c ∈ R, wfC c ∧ c.1 ≤ 1 := fun c hc => hwf c (List.mem_cons_of_mem _ hc)
    refine sy_Model_isSo_114 _ _ _ _ _ _ _ _ (vp_in_nI hk (by decide)) (fun z => absurd c0 z) (fun _ => by rw [k36]; exact vp_in_nI (by omega) (by decide)) (fun _ z => ?_) (fun _ _ => by rw [k36, nI_1]; exact vp_in_nI (by omega) (by decide)) (fun _ _ => by rw [k36, show (2 : Int32) = nI 2 from rfl, nI_add]; exact vp_in_nI (by omega) (by decide)) (fun _ z => ?_)
    · rw [nI_1]
      refine isSo_cls (w := w) hk hs hn R (j + 1) I L _ (by omega) hn1 hcl hwf' hw (fun I1 L1 f1 l1 => ?_)
      have h := h I1 L1 f1 l1
      have ne : ¬ c.1 = s := fun e2 => z (by rw [q0, e2])
      unfold rv at h
      rw [decide_eq_false ne, Bool.false_and, Bool.false_or] at h
      exact h
    · have es : c.1 = s := (nI_eq (by omega) (by omega)).mp (q0.symm.trans z)
      rw [q1, q2]
      rcases wfC_ev wf1 w with z0 | z0
      · refine sp_Model_reckons hk b1 b5 wf1 hw z0 (fun I1 L1 f1 l1 => ?_)
        refine sy_Model_isSo_173 _ _ _ _ _ _ _ _ _ (fun _ => ?_) (fun z => absurd z (by decide))
        rw [nI_1]
        refine isSo_cls (w := w) hk hs hn R (j + 1) I1 L1 _ (by omega) (by rw [f1.c (by decide)]; exact hn1) (clsAt_c (f1.c (by decide)) (f1.c (by decide)) hcl) hwf' (fun k hk => by rw [l1 197 (by decide)]; exact hw k hk) (fun I2 L2 f2 l2 => ?_)
        have h := h I2 L2 (f1.tr f2) (fun a ha => (l2 a ha).trans (l1 a ha))
        unfold rv at h
        rw [z0, show decide (([0] : List Int64) = [1]) = false from by decide, Bool.and_false, Bool.false_or] at h
        exact h
      · refine sp_Model_reckons hk b1 b5 wf1 hw z0 (fun I1 L1 f1 l1 => ?_)
        refine sy_Model_isSo_173 _ _ _ _ _ _ _ _ _ (fun z => absurd rfl z) (fun _ => ?_)
        have h := h I1 L1 f1 l1
        unfold rv at h
        rw [z0, show decide (([1] : List Int64) = [1]) = true from by decide, decide_eq_true es, Bool.true_and, Bool.true_or, bI_t rfl] at h
        exact h
end RCK
/-! ===== the laws of a drive ===== -/
def oth (f : Nat → Int32) (j : Nat) (p : Int32) : Int32 := if f (7 + 5 * j) = p then f (7 + 5 * j + 1) else f (7 + 5 * j)
def wdf (f : Nat → Int32) (j : Nat) (p k dy : Int32) : Nat → Int64 := fun i => match i with
  | 0 => Int32.toInt64 (nI j)
  | 1 => Int32.toInt64 (f (7 + 5 * j + 2))
  | 2 => Int32.toInt64 (f (7 + 5 * j + 3))
  | 3 => Int32.toInt64 k
  | 4 => Int32.toInt64 p
  | 5 => Int32.toInt64 (oth f j p)
  | 6 => Int32.toInt64 (f (7 + 5 * j + 4))
  | 7 => Int32.toInt64 (f 4)
  | _ => Int32.toInt64 dy
def tst (Rs : List (List (Nat × List Nat))) (fo : Int32) (s : Nat) (w : Nat → Int64) : Bool := if fo < 0 then decide (s = 1) else (match Rs[fo.toNatClampNeg]? with
  | some R => rv s w R
  | none => decide (s = 1))
def pBrk (Rs : List (List (Nat × List Nat))) (f : Nat → Int32) (j : Nat) (p k dy : Int32) : Int32 :=
  if f (7 + 5 * j) = p ∨ f (7 + 5 * j + 1) = p then (if k ≠ 0 ∧ f (7 + 5 * j + 3) ≠ 0 ∧ f (7 + 5 * j + 3) ≠ k then 2 else if tst Rs (f 6) 0 (wdf f j p k dy) = true then 3 else 0) else 1
def pLst (Rs : List (List (Nat × List Nat))) (f : Nat → Int32) (j : Nat) (p k dy : Int32) : Int32 :=
  if k = 0 then (if tst Rs (f 6) 1 (wdf f j p k dy) = true then 0 else f (7 + 5 * j + 3)) else k
theorem tst_0 {Rs : List (List (Nat × List Nat))} {fo : Int32} {s : Nat} {w : Nat → Int64} (h : fo < 0 ∨ Rs[fo.toNatClampNeg]? = none) : tst Rs fo s w = decide (s = 1) := by
  unfold tst
  by_cases e : fo < 0
  · rw [if_pos e]
  · rw [if_neg e]
    rcases h with h | h
    · exact absurd h e
    · rw [h]
theorem tst_1 {Rs : List (List (Nat × List Nat))} {fo : Int32} {s k : Nat} {w : Nat → Int64} {R : List (Nat × List Nat)} (hf : fo = nI k) (hk : k < 6) (h : Rs[k]? = some R) : tst Rs fo s w = rv s w R := by
  subst hf
  unfold tst
  rw [if_neg (nI_pos (by omega)), nI_clamp (by omega), h]
def wfRs (Rs : List (List (Nat × List Nat))) : Prop := Rs.length ≤ 6 ∧ ∀ (k : Nat) (R : List (Nat × List Nat)), Rs[k]? = some R → ∀ c ∈ R, wfC c ∧ c.1 ≤ 1
/-- the class's rules -/
def RCc (I : am_I) (ρ : List (Nat × Nat)) (Rs : List (List (Nat × List Nat))) : Prop := ρ.length = Rs.length ∧ I 21 1 = nI Rs.length ∧ ∀ k R, Rs[k]? = some R → (rcC 0 R).length ≤ 400 ∧ (rcC 1 R).length ≤ 400 ∧ ρ[k]? = some ((rcC 0 R).length, (rcC 1 R).length) ∧ segAt (I (214 + 3 * k)) 0 (rcC 0 R) ∧ segAt (I (215 + 3 * k)) 0 (rcC 1 R)
/-- the reference's rules -/
def RCm (I : am_I) (Rs : List (List (Nat × List Nat))) : Prop := I 186 2 = nI Rs.length ∧ ∀ k R, Rs[k]? = some R → I 191 k = nI R.length ∧ R.length ≤ 12 ∧ clsAt I k 0 R
/-- the Roads at r are the n roads of f -/
def rdR (I : am_I) (r : Nat) (f : Nat → Int32) (n : Nat) : Prop := I r 5 = f 0 ∧ I r 6 = nI n ∧ I r 7 = f 4 ∧ I r 8 = f 6 ∧ ∀ j, j < n → I (r + 1) j = f (7 + 5 * j) ∧ I (r + 2) j = f (7 + 5 * j + 1) ∧ I (r + 3) j = f (7 + 5 * j + 2) ∧ I (r + 4) j = f (7 + 5 * j + 3) ∧ I (r + 5) j = f (7 + 5 * j + 4)
theorem gg_ru {Lx : Nat} {ρ : List (Nat × Nat)} {k : Nat} (hk : k < ρ.length) : (gg Lx ρ).1 22 k = 213 + 3 * k ∧ (gg Lx ρ).2.1 (213 + 3 * k) = .inl 6 ∧ (gg Lx ρ).1 (213 + 3 * k) 0 = 214 + 3 * k ∧ (gg Lx ρ).1 (213 + 3 * k) 1 = 215 + 3 * k := by
  have hb : ∀ a b : Nat, a < b → Nat.blt a b = true := fun a b h => Nat.ble_eq_true_of_le h
  have hb' : ∀ a b : Nat, b ≤ a → Nat.blt a b = false := fun a b h => by
    cases e : Nat.blt a b with
    | false => rfl
    | true => have := Nat.le_of_ble_eq_true (show Nat.ble (a + 1) b = true from e); omega
  have e3 : (213 + 3 * k - 213) % 3 = 0 := by omega
  refine ⟨?_, ?_, ?_, ?_⟩
  · show gR ρ 22 k = _
    unfold gR
    rw [show Nat.blt 22 213 = true from rfl, show Nat.beq 22 22 = true from rfl, hb k _ hk]; rfl
  · show gS Lx ρ (213 + 3 * k) = _
    unfold gS
    rw [show Nat.beq (213 + 3 * k) 1 = false from (by cases e : Nat.beq (213 + 3 * k) 1 with
      | false => rfl
      | true => have := Nat.eq_of_beq_eq_true e; omega), hb' _ 12 (by omega), hb' _ 213 (by omega), hb _ (213 + 3 * ρ.length) (by omega), e3]; rfl
  · show gR ρ (213 + 3 * k) 0 = _
    unfold gR
    rw [hb' _ 213 (by omega), hb _ (213 + 3 * ρ.length) (by omega), e3]
    show 213 + 3 * k + 1 + 0 = _
    omega
  · show gR ρ (213 + 3 * k) 1 = _
    unfold gR
    rw [hb' _ 213 (by omega), hb _ (213 + 3 * ρ.length) (by omega), e3]
    show 213 + 3 * k + 1 + 1 = _
    omega
theorem gg_ru2 {Lx : Nat} {ρ : List (Nat × Nat)} {k : Nat} {q : Nat × Nat} (hq : ρ[k]? = some q) : (gg Lx ρ).2.1 (214 + 3 * k) = .inr (0, q.1) ∧ (gg Lx ρ).2.1 (215 + 3 * k) = .inr (0, q.2) := by
  have hk : k < ρ.length := (List.getElem?_eq_some_iff.mp hq).1
  have hb : ∀ a b : Nat, a < b → Nat.blt a b = true := fun a b h => Nat.ble_eq_true_of_le h
  have hb' : ∀ a b : Nat, b ≤ a → Nat.blt a b = false := fun a b h => by
    cases e : Nat.blt a b with
    | false => rfl
    | true => have := Nat.le_of_ble_eq_true (show Nat.ble (a + 1) b = true from e); omega
  have hne : ∀ a b : Nat, a ≠ b → Nat.beq a b = false := fun a b h => by
    cases e : Nat.beq a b with
    | false => rfl
    | true => exact absurd (Nat.eq_of_beq_eq_true e) h
  have hd : ρ.getD k (0, 0) = q := by rw [List.getD_eq_getElem?_getD, hq]; rfl
  refine ⟨?_, ?_⟩
  · show gS Lx ρ (214 + 3 * k) = _
    unfold gS
    rw [hne _ 1 (by omega), hb' _ 12 (by omega), hb' _ 213 (by omega), hb _ (213 + 3 * ρ.length) (by omega), show (214 + 3 * k - 213) % 3 = 1 by omega, show (214 + 3 * k - 213) / 3 = k by omega, hd]; rfl
  · show gS Lx ρ (215 + 3 * k) = _
    unfold gS
    rw [hne _ 1 (by omega), hb' _ 12 (by omega), hb' _ 213 (by omega), hb _ (213 + 3 * ρ.length) (by omega), show (215 + 3 * k - 213) % 3 = 2 by omega, show (215 + 3 * k - 213) / 3 = k by omega, hd]; rfl
theorem rv_nil {s : Nat} {w : Nat → Int64} : ∀ {R : List (Nat × List Nat)}, rcC s R = [] → rv s w R = false
  | [], _ => rfl
  | c :: R, h => by
    unfold rcC at h
    obtain ⟨h1, h2⟩ := List.append_eq_nil_iff.mp h
    by_cases e : c.1 = s
    · rw [if_pos e] at h1; simp at h1
    · unfold rv; rw [decide_eq_false e, rv_nil h2]; rfl
section BRK
variable {d Lx : Nat} {ρ : List (Nat × Nat)} {Q : am_Q} {Rs : List (List (Nat × List Nat))}
theorem sp_Laws_inForce {I : am_I} {L : am_L} {r : Nat} {fo : Int32} (hr : r ∈ rdl) (hw : wfRs Rs) (hC : RCc I ρ Rs) (h8 : I r 8 = fo) (h0 : (fo < 0 ∨ Rs[fo.toNatClampNeg]? = none) → Q (some (.ref 0)) I L (gg Lx ρ)) (h1 : ∀ k R, fo = nI k → k < 6 → Rs[k]? = some R → Q (some (.ref (213 + 3 * k))) I L (gg Lx ρ)) : am_run (d + 1) m_Laws_inForce [.ref 21, .ref r] I L (gg Lx ρ) Q := by
  have hl := hw.1
  refine run_in rfl rfl ⟨rfl, rfl⟩ (sz_Laws_inForce_0 r hr (fun c => ?_) (fun c c2 => ?_) (fun c c2 => ?_) (fun c c2 => ?_))
  · exact h0 (Or.inl (h8 ▸ c))
  · rw [h8] at c c2
    obtain ⟨j, hj, rfl⟩ := nI_of c
    refine h0 (Or.inr ?_)
    rw [nI_clamp hj, List.getElem?_eq_none_iff]
    rw [hC.2.1] at c2
    exact Nat.le_of_not_lt fun z => c2 (nI_lt z (by omega))
  · rw [hC.2.1] at c2
    exact vin c c2 rfl (by omega) |> fun z => by
      obtain ⟨j, hj, e⟩ := vp_in_of z (by omega)
      rw [e]; exact vp_in_nI (by omega) (by decide)
  · rw [h8] at c c2 ⊢
    rw [hC.2.1] at c2
    obtain ⟨j, hj, rfl⟩ := ix_lt (by omega) c c2
    rw [nI_clamp (by omega), (gg_ru (by rw [hC.1]; exact hj)).1]
    exact h1 j _ rfl (by omega) (List.getElem?_eq_getElem hj)
theorem cAcr_n {I : am_I} {r n j : Nat} {f : Nat → Int32} {p : Int32} (hR : rdR I r f n) (hn : n ≤ 17) (hj : j < n) : cAcr I r (nI j) p = if f (7 + 5 * j) = p then f (7 + 5 * j + 1) else if f (7 + 5 * j + 1) = p then f (7 + 5 * j) else -1 := by
  unfold cAcr
  rw [if_pos ⟨nI_pos (by omega), by rw [hR.2.1]; exact nI_lt hj (by omega), nI_lt (b := 17) (by omega) (by decide)⟩, nI_clamp (by omega), (hR.2.2.2.2 j hj).1, (hR.2.2.2.2 j hj).2.1]
theorem cTell_w {I : am_I} {L : am_L} {r n j : Nat} {f : Nat → Int32} {p k dy : Int32} (hR : rdR I r f n) (hn : n ≤ 17) (hj : j < n) : ∀ i, i < 9 → cTell I L r (nI j) p (oth f j p) k dy 23 i = wdf f j p k dy i := by
  obtain ⟨q1, q2, q3, q4, q5⟩ := hR.2.2.2.2 j hj
  intro i hi
  unfold cTell
  rw [nI_clamp (by omega), q3, q4, q5, hR.2.2.1]
  match i, hi with
  | 0, _ => rfl
  | 1, _ => rfl
  | 2, _ => rfl
  | 3, _ => rfl
  | 4, _ => rfl
  | 5, _ => rfl
  | 6, _ => rfl
  | 7, _ => rfl
  | 8, _ => rfl
  | i + 9, h => omega
theorem cTell_f {I : am_I} {L : am_L} {r : Nat} {x p t k dy : Int32} {a : Nat} (h : a ≠ 23) : cTell I L r x p t k dy a = L a := by
  unfold cTell
  rw [am_u_ne h, am_u_ne h, am_u_ne h, am_u_ne h, am_u_ne h, am_u_ne h, am_u_ne h, am_u_ne h, am_u_ne h]
theorem sp_Laws_broken {I : am_I} {L : am_L} {r n j : Nat} {f : Nat → Int32} {p k dy : Int32} (hr : r ∈ rdl) (hR : rdR I r f n) (hn : n ≤ 17) (hj : j < n) (hne : f (7 + 5 * j) ≠ -1 ∧ f (7 + 5 * j + 1) ≠ -1) (hw : wfRs Rs) (hC : RCc I ρ Rs)
    (h : ∀ L', (∀ a, a ≠ 23 → a ≠ 24 → L' a = L a) → Q (some (.int (pBrk Rs f j p k dy))) I L' (gg Lx ρ)) : am_run (d + 3) m_Laws_broken [.ref 21, .ref r, .int (nI j), .int p, .int k, .int dy] I L (gg Lx ρ) Q := by
  have hac := cAcr_n (p := p) hR hn hj
  have hv : vp_in (nI j) 17 := vp_in_nI (by omega) (by decide)
  have hla : I (r + 4) (nI j).toNatClampNeg = f (7 + 5 * j + 3) := by rw [nI_clamp (by omega)]; exact (hR.2.2.2.2 j hj).2.2.2.1
  have hto : ∀ (c : ¬ cAcr I r (nI j) p = -1), (f (7 + 5 * j) = p ∨ f (7 + 5 * j + 1) = p) ∧ cAcr I r (nI j) p = oth f j p := by
    intro c
    rw [hac] at c ⊢
    unfold oth
    by_cases e1 : f (7 + 5 * j) = p
    · rw [if_pos e1, if_pos e1]; exact ⟨Or.inl e1, rfl⟩
    · rw [if_neg e1] at c ⊢
      by_cases e2 : f (7 + 5 * j + 1) = p
      · rw [if_pos e2, if_neg e1]; exact ⟨Or.inr e2, rfl⟩
      · rw [if_neg e2] at c; exact absurd rfl c
  have key : ∀ (c : ¬ cAcr I r (nI j) p = -1), ¬ (k ≠ 0 ∧ f (7 + 5 * j + 3) ≠ 0 ∧ f (7 + 5 * j + 3) ≠ k) → am_run (d + 2) m_Laws_inForce [.ref 21, .ref r] I L (gg Lx ρ) (fun r' I' L' G' => am_W am_all (am_run (d + 2)) e_Laws_broken Q 48 [.ref 21, .ref r, .int (nI j), .int p, .int k, .int dy, .int (cAcr I r (nI j) p), .int (I (r + 4) (nI j).toNatClampNeg), .null] (r'.toList ++ ([] : List Value)) I' L' G' 0 0) := by
    intro c c2
    obtain ⟨t1, t2⟩ := hto c
    unfold pBrk at h
    rw [if_pos t1, if_neg c2] at h
    refine sp_Laws_inForce hr hw hC hR.2.2.2.1 (fun z => ?_) (fun i R hi hi6 hRi => ?_)
    · rw [tst_0 z] at h
      exact sy_Laws_broken_48 r _ _ _ _ _ _ _ 0 0 hr (fun _ => h L (fun _ _ _ => rfl)) (fun z => absurd rfl z) (fun z => absurd rfl z) (fun z => absurd rfl z) (fun z => absurd rfl z) (fun z => absurd rfl z)
    · rw [tst_1 hi hi6 hRi] at h
      obtain ⟨g1, g2, g3, g4, g5⟩ := hC.2.2 i R hRi
      obtain ⟨u1, u2, u3, u4⟩ := gg_ru (Lx := Lx) (ρ := ρ) (k := i) (List.getElem?_eq_some_iff.mp g3).1
      obtain ⟨u5, u6⟩ := gg_ru2 (Lx := Lx) g3
      refine sy_Laws_broken_48 r _ _ _ _ _ _ _ (213 + 3 * i) (rcC 0 R).length hr (fun z => by omega) (fun _ => u2) (fun _ => by rw [u3]; exact u5) (fun _ _ => hv) (fun _ _ => ?_) (fun _ z => ?_)
      · rw [u3, t2]
        refine sp_Laws_holds (s := 0) u5 (by omega) rfl g4 (fun c hc => (hw.2 i R hRi c hc).1) (cTell_w hR hn hj) (fun L' hL' => ?_)
        have h := h L' (fun a h1 h2 => (hL' a h2).trans (cTell_f h1))
        refine sy_Laws_broken_88 r _ _ _ _ _ _ _ _ hr (fun z => ?_) (fun z => ?_)
        · rw [if_neg (bI0 z)] at h; exact h
        · rw [if_pos (bI1 z)] at h; exact h
      · have e0 : (rcC 0 R).length = 0 := (nI_eq (by omega) (by decide)).mp z
        have h := h L (fun _ _ _ => rfl)
        rw [rv_nil (List.length_eq_zero_iff.mp e0), if_neg (by decide)] at h
        exact h
  refine run_in rfl rfl ⟨rfl, rfl⟩ (sy_Laws_broken_0 r _ _ _ _ hr (fun _ => hv) (fun c c2 => key c (fun z => z.1 c2)) (fun c _ c3 => key c (fun z => z.2.1 (hla ▸ c3))) (fun c _ _ c3 => key c (fun z => z.2.2 (hla ▸ c3))) (fun c c2 c3 c4 => ?_) (fun c => ?_))
  · have h := h L (fun _ _ _ => rfl)
    unfold pBrk at h
    rw [if_pos (hto c).1, if_pos ⟨c2, hla ▸ c3, hla ▸ c4⟩] at h
    exact h
  · have h := h L (fun _ _ _ => rfl)
    unfold pBrk at h
    rw [if_neg] at h
    · exact h
    · rw [hac] at c
      rintro (z | z)
      · rw [if_pos z] at c; exact hne.2 c
      · by_cases e1 : f (7 + 5 * j) = p
        · rw [if_pos e1] at c; exact hne.2 c
        · rw [if_neg e1, if_pos z] at c; exact hne.1 c
theorem sp_Laws_lastAfter {I : am_I} {L : am_L} {r n j : Nat} {f : Nat → Int32} {p k dy : Int32} (hr : r ∈ rdl) (hR : rdR I r f n) (hn : n ≤ 17) (hj : j < n) (hp : f (7 + 5 * j) = p ∨ f (7 + 5 * j + 1) = p) (hw : wfRs Rs) (hC : RCc I ρ Rs)
    (h : ∀ L', (∀ a, a ≠ 23 → a ≠ 24 → L' a = L a) → Q (some (.int (pLst Rs f j p k dy))) I L' (gg Lx ρ)) : am_run (d + 3) m_Laws_lastAfter [.ref 21, .ref r, .int (nI j), .int p, .int k, .int dy] I L (gg Lx ρ) Q := by
  have hto : cAcr I r (nI j) p = oth f j p := by
    rw [cAcr_n (p := p) hR hn hj]
    unfold oth
    by_cases e1 : f (7 + 5 * j) = p
    · rw [if_pos e1, if_pos e1]
    · rw [if_neg e1, if_neg e1, if_pos (hp.resolve_left e1)]
  have hv : vp_in (nI j) 17 := vp_in_nI (by omega) (by decide)
  have hla : I (r + 4) (nI j).toNatClampNeg = f (7 + 5 * j + 3) := by rw [nI_clamp (by omega)]; exact (hR.2.2.2.2 j hj).2.2.2.1
  unfold pLst at h
  refine run_in rfl rfl ⟨rfl, rfl⟩ (sy_Laws_lastAfter_0 r _ _ _ _ hr (fun c => ?_) (fun c c2 => ?_) (fun c c2 => ?_))
  · rw [if_neg c] at h; exact h L (fun _ _ _ => rfl)
  · rw [if_pos c] at h
    refine sp_Laws_inForce hr hw hC hR.2.2.2.1 (fun z => ?_) (fun i R hi hi6 hRi => ?_)
    · rw [tst_0 z] at h
      exact sy_Laws_lastAfter_21 r _ _ _ _ _ _ hr (fun z => absurd rfl z) (fun z => absurd rfl z) (fun z => absurd rfl z) (fun _ => h L (fun _ _ _ => rfl))
    · rw [tst_1 hi hi6 hRi] at h
      obtain ⟨g1, g2, g3, g4, g5⟩ := hC.2.2 i R hRi
      obtain ⟨u1, u2, u3, u4⟩ := gg_ru (Lx := Lx) (ρ := ρ) (k := i) (List.getElem?_eq_some_iff.mp g3).1
      obtain ⟨u5, u6⟩ := gg_ru2 (Lx := Lx) g3
      refine sy_Laws_lastAfter_21 r _ _ _ _ _ (213 + 3 * i) hr (fun _ => hv) (fun _ => u2) (fun _ => ?_) (fun z => by omega)
      rw [u4, hto]
      refine sp_Laws_holds (s := 1) u6 (by omega) rfl g5 (fun c hc => (hw.2 i R hRi c hc).1) (cTell_w hR hn hj) (fun L' hL' => ?_)
      have h := h L' (fun a h1 h2 => (hL' a h2).trans (cTell_f h1))
      refine sy_Laws_lastAfter_56 r _ _ _ _ _ _ hr (fun _ => hv) (fun z => ?_) (fun z => ?_)
      · rw [if_neg (bI0 z)] at h; rw [hla]; exact h
      · rw [if_pos (bI1 z)] at h; exact h
  · exact absurd ⟨nI_pos (by omega), by rw [hR.2.1]; exact nI_lt hj (by omega), nI_lt (b := 17) (by omega) (by decide)⟩ c2
theorem oR_n {j c : Nat} (h : 7 + 5 * j + c < 152) : oR (nI j) (nI c) := by
  unfold oR
  rw [show (7 : Int32) = nI 7 from rfl, show (5 : Int32) = nI 5 from rfl, pk_mul, nI_add, nI_add]
  exact vp_in_nI h (by decide)
theorem mR_n {I : am_I} {j c : Nat} (h : 7 + 5 * j + c < 152) : mR I (nI j) (nI c) = I 198 (7 + 5 * j + c) := by
  unfold mR
  rw [show (7 : Int32) = nI 7 from rfl, show (5 : Int32) = nI 5 from rfl, pk_mul, nI_add, nI_add, nI_clamp (by omega)]
theorem mOth_n {I : am_I} {j : Nat} {p : Int32} (h : j < 17) : mOth I (nI j) p = oth (I 198) j p := by
  unfold mOth oth
  rw [show mR I (nI j) 0 = I 198 (7 + 5 * j) from mR_n (c := 0) (by omega), show mR I (nI j) 1 = I 198 (7 + 5 * j + 1) from mR_n (c := 1) (by omega)]
theorem sp_Model_isSo {I : am_I} {L : am_L} {s j k : Nat} {p kd dy : Int32} {R : List (Nat × List Nat)} (hs : s ≤ 1) (hj : j < 17) (hf : I 198 6 = nI k) (hk : k < 6) (hR : Rs[k]? = some R) (hw : wfRs Rs) (hM : RCm I Rs)
    (h : ∀ I' L', fr24 I I' → (∀ a, a ≠ 196 → a ≠ 197 → L' a = L a) → Q (some (.int (bI (rv s (wdf (I 198) j p kd dy) R = true)))) I' L' (gg Lx ρ)) : am_run (d + 3) m_Model_isSo [.ref 186, .int (nI s), .int (nI j), .int p, .int kd, .int dy] I L (gg Lx ρ) Q := by
  obtain ⟨g1, g2, g3⟩ := hM.2 k R hR
  refine run_in rfl rfl ⟨rfl, rfl⟩ (sy_Model_isSo_0 _ _ _ _ _ (oR_n (c := 2) (by omega)) (oR_n (c := 3) (by omega)) (oR_n (c := 0) (by omega)) (oR_n (c := 1) (by omega)) (oR_n (c := 4) (by omega)) ?_)
  rw [hf]
  refine isSo_cls (w := wdf (I 198) j p kd dy) hk hs g2 R 0 I _ _ (by omega) g1 g3 (hw.2 k R hR) ?_ (fun I' L' f1 l1 => h I' L' f1 (fun a h1 h2 => ?_))
  · rw [show mR I (nI j) 2 = I 198 (7 + 5 * j + 2) from mR_n (c := 2) (by omega), show mR I (nI j) 3 = I 198 (7 + 5 * j + 3) from mR_n (c := 3) (by omega), show mR I (nI j) 4 = I 198 (7 + 5 * j + 4) from mR_n (c := 4) (by omega), mOth_n hj]
    intro i hi
    match i, hi with
    | 0, _ => rfl
    | 1, _ => rfl
    | 2, _ => rfl
    | 3, _ => rfl
    | 4, _ => rfl
    | 5, _ => rfl
    | 6, _ => rfl
    | 7, _ => rfl
    | 8, _ => rfl
    | i + 9, h => omega
  · rw [l1 a h1, am_u_ne h2, am_u_ne h2, am_u_ne h2, am_u_ne h2, am_u_ne h2, am_u_ne h2, am_u_ne h2, am_u_ne h2, am_u_ne h2]
theorem pos_ne {x : Int32} (h : ¬ x < 0) : (¬ 0 < x ↔ x = 0) := by
  obtain ⟨j, hj, rfl⟩ := nI_of h
  constructor
  · intro z
    have : ¬ 0 < j := fun y => z (nI_lt (a := 0) y hj)
    rw [show j = 0 by omega]; rfl
  · intro z; rw [z]; decide
/-- the rule in force is one of the rules -/
def foR (Rs : List (List (Nat × List Nat))) (fo : Int32) : Prop := ¬ fo < 0 → ∃ k R, fo = nI k ∧ k < 6 ∧ Rs[k]? = some R
theorem sp_Model_broken {I : am_I} {L : am_L} {j : Nat} {p k dy : Int32} (hj : j < 17) (hk : ¬ k < 0) (hl : ¬ I 198 (7 + 5 * j + 3) < 0) (hfo : foR Rs (I 198 6)) (hw : wfRs Rs) (hM : RCm I Rs)
    (h : ∀ I' L', fr24 I I' → (∀ a, a ≠ 196 → a ≠ 197 → L' a = L a) → Q (some (.int (pBrk Rs (I 198) j p k dy))) I' L' (gg Lx ρ)) : am_run (d + 4) m_Model_broken [.ref 186, .int (nI j), .int p, .int k, .int dy] I L (gg Lx ρ) Q := by
  have r0 : mR I (nI j) 0 = I 198 (7 + 5 * j) := mR_n (c := 0) (by omega)
  have r1 : mR I (nI j) 1 = I 198 (7 + 5 * j + 1) := mR_n (c := 1) (by omega)
  have r3 : mR I (nI j) 3 = I 198 (7 + 5 * j + 3) := mR_n (c := 3) (by omega)
  have hb : mBeg I (nI j) p ↔ (I 198 (7 + 5 * j) = p ∨ I 198 (7 + 5 * j + 1) = p) := by
    show (mR I (nI j) 0 = p ∨ mR I (nI j) 1 = p) ↔ _
    rw [r0, r1]
  unfold pBrk at h
  have k0 : mBeg I (nI j) p → ¬ (k ≠ 0 ∧ I 198 (7 + 5 * j + 3) ≠ 0 ∧ I 198 (7 + 5 * j + 3) ≠ k) → I 198 6 < 0 → Q (some (.int 0)) I L (gg Lx ρ) := by
    intro c c2 c3
    have h := h I L fr24.rf (fun _ _ _ => rfl)
    rw [if_pos (hb.mp c), if_neg c2, tst_0 (Or.inl c3)] at h
    exact h
  have k1 : mBeg I (nI j) p → ¬ (k ≠ 0 ∧ I 198 (7 + 5 * j + 3) ≠ 0 ∧ I 198 (7 + 5 * j + 3) ≠ k) → ¬ I 198 6 < 0 → am_run (d + 3) m_Model_isSo [.ref 186, .int 0, .int (nI j), .int p, .int k, .int dy] I L (gg Lx ρ) (fun r I' L' G' => am_W am_all (am_run (d + 3)) e_Model_broken Q 56 [.ref 186, .int (nI j), .int p, .int k, .int dy] (r.toList ++ ([] : List Value)) I' L' G' 0 0) := by
    intro c c2 c3
    obtain ⟨i, R, e1, e2, e3⟩ := hfo c3
    refine sp_Model_isSo (s := 0) (by decide) hj e1 e2 e3 hw hM (fun I' L' f1 l1 => ?_)
    have h := h I' L' f1 l1
    rw [if_pos (hb.mp c), if_neg c2, tst_1 e1 e2 e3] at h
    refine sy_Model_broken_56 _ _ _ _ _ (fun z => ?_) (fun z => ?_)
    · rw [if_neg (bI0 z)] at h; exact h
    · rw [if_pos (bI1 z)] at h; exact h
  refine run_in rfl rfl ⟨rfl, rfl⟩ (sy_Model_broken_0 _ _ _ _ (oR_n (c := 0) (by omega)) (oR_n (c := 1) (by omega)) (fun c c2 c3 => k0 c (fun z => z.1 ((pos_ne hk).mp c2)) c3) (fun c c2 c3 => k1 c (fun z => z.1 ((pos_ne hk).mp c2)) c3) (fun _ _ => oR_n (c := 3) (by omega)) (fun c _ c3 c4 => k0 c (fun z => z.2.1 ((pos_ne hl).mp (r3 ▸ c3))) c4) (fun c _ c3 c4 => k1 c (fun z => z.2.1 ((pos_ne hl).mp (r3 ▸ c3))) c4) (fun c _ _ c4 c5 => k0 c (fun z => z.2.2 (r3 ▸ c4)) c5) (fun c _ _ c4 c5 => k1 c (fun z => z.2.2 (r3 ▸ c4)) c5) (fun c c2 c3 c4 => ?_) (fun c => ?_))
  · have h := h I L fr24.rf (fun _ _ _ => rfl)
    rw [r3] at c3 c4
    rw [if_pos (hb.mp c), if_pos ⟨fun z => absurd c2 ((pos_ne hk).mpr z), fun z => absurd c3 ((pos_ne hl).mpr z), c4⟩] at h
    exact h
  · have h := h I L fr24.rf (fun _ _ _ => rfl)
    rw [if_neg (fun z => c (hb.mpr z))] at h
    exact h
theorem sp_Model_lastBehind {I : am_I} {L : am_L} {j : Nat} {p k dy : Int32} (hj : j < 17) (hk : ¬ k < 0) (hfo : foR Rs (I 198 6)) (hw : wfRs Rs) (hM : RCm I Rs)
    (h : ∀ I' L', fr24 I I' → (∀ a, a ≠ 196 → a ≠ 197 → L' a = L a) → Q (some (.int (pLst Rs (I 198) j p k dy))) I' L' (gg Lx ρ)) : am_run (d + 4) m_Model_lastBehind [.ref 186, .int (nI j), .int p, .int k, .int dy] I L (gg Lx ρ) Q := by
  have r3 : ∀ I' : am_I, fr24 I I' → mR I' (nI j) 3 = I 198 (7 + 5 * j + 3) := fun I' f1 => (mR_n (c := 3) (by omega)).trans (congrFun (f1.c (by decide)) _)
  unfold pLst at h
  refine run_in rfl rfl ⟨rfl, rfl⟩ (sy_Model_lastBehind_0 (d := d + 2) _ _ _ _ (fun c c2 => ?_) (fun c c2 => ?_) (fun c => ?_))
  · have h := h I L fr24.rf (fun _ _ _ => rfl)
    rw [if_pos ((pos_ne hk).mp c), tst_0 (Or.inl c2)] at h
    exact h
  · obtain ⟨i, R, e1, e2, e3⟩ := hfo c2
    refine sp_Model_isSo (s := 1) (by decide) hj e1 e2 e3 hw hM (fun I' L' f1 l1 => ?_)
    have h := h I' L' f1 l1
    rw [if_pos ((pos_ne hk).mp c), tst_1 e1 e2 e3] at h
    refine sy_Model_lastBehind_26 _ _ _ _ _ (fun _ => oR_n (c := 3) (by omega)) (fun z => ?_) (fun z => ?_)
    · rw [if_neg (bI0 z)] at h; rw [r3 I' f1]; exact h
    · rw [if_pos (bI1 z)] at h; exact h
  · have h := h I L fr24.rf (fun _ _ _ => rfl)
    rw [if_neg (fun z => absurd c ((pos_ne hk).mpr z))] at h
    exact h
end BRK
/-! ===== frames; the roads as numbers ===== -/
/-- only cells of S are changed -/
def frc (S : List Nat) (I I' : am_I) : Prop := ∀ a, a ∉ S → I' a = I a
theorem frc.rf {S : List Nat} {I : am_I} : frc S I I := fun _ _ => rfl
theorem frc.tr {S : List Nat} {I I' I2 : am_I} (h : frc S I I') (g : frc S I' I2) : frc S I I2 := fun a z => (g a z).trans (h a z)
theorem frc.u {S : List Nat} {I I' : am_I} (h : frc S I I') {a k : Nat} {v : Int32} (ha : a ∈ S) : frc S I (am_u I' a k v) := fun b z => by
  rw [am_u_ne (fun (e : b = a) => z (e ▸ ha))]; exact h b z
theorem frc.r {S : List Nat} {I I' : am_I} (h : frc S I I') {a : Nat} {g : Nat → Int32} (ha : a ∈ S) : frc S I (am_r I' a g) := fun b z => by
  rw [am_r_ne (fun (e : b = a) => z (e ▸ ha))]; exact h b z
theorem frc.w {S T : List Nat} {I I' : am_I} (h : frc S I I') (hs : ∀ a ∈ S, a ∈ T) : frc T I I' := fun a z => h a fun y => z (hs a y)
theorem rdl_apart : ∀ r ∈ rdl, ∀ s ∈ rdl, r ≠ s → r + 5 < s ∨ s + 5 < r := by decide +kernel
theorem rdl_lt : ∀ r ∈ rdl, 30 ≤ r ∧ r + 5 < 186 := by decide +kernel
theorem stl_apart : ∀ r ∈ stl, ∀ s ∈ stl, r ≠ s → r + 14 < s ∨ s + 14 < r := by decide +kernel
theorem stl_lt : ∀ r ∈ stl, 94 ≤ r ∧ r + 14 < 186 := by decide +kernel
theorem rdR_fr {I I' : am_I} {r n : Nat} {f : Nat → Int32} (h : ∀ a, r ≤ a → a ≤ r + 5 → I' a = I a) (hR : rdR I r f n) : rdR I' r f n := by
  unfold rdR at hR ⊢
  rw [h r (by omega) (by omega), h (r + 1) (by omega) (by omega), h (r + 2) (by omega) (by omega), h (r + 3) (by omega) (by omega), h (r + 4) (by omega) (by omega), h (r + 5) (by omega) (by omega)]
  exact hR
theorem RCc_fr {I I' : am_I} {ρ : List (Nat × Nat)} {Rs : List (List (Nat × List Nat))} (h21 : I' 21 = I 21) (h : ∀ a, 213 ≤ a → I' a = I a) (hC : RCc I ρ Rs) : RCc I' ρ Rs := by
  obtain ⟨h1, h2, h3⟩ := hC
  refine ⟨h1, by rw [h21]; exact h2, fun k R hR => ?_⟩
  obtain ⟨g1, g2, g3, g4, g5⟩ := h3 k R hR
  exact ⟨g1, g2, g3, by rw [h _ (by omega)]; exact g4, by rw [h _ (by omega)]; exact g5⟩
theorem RCm_fr {I I' : am_I} {Rs : List (List (Nat × List Nat))} (h0 : I' 186 2 = I 186 2) (h1 : I' 188 = I 188) (h2 : I' 190 = I 190) (h3 : I' 191 = I 191) (hM : RCm I Rs) : RCm I' Rs := by
  refine ⟨by rw [h0]; exact hM.1, fun k R hR => ?_⟩
  obtain ⟨g1, g2, g3⟩ := hM.2 k R hR
  exact ⟨by rw [h3]; exact g1, g2, clsAt_c h1 h2 g3⟩
def rA (f : Nat → Int32) (j : Nat) : Nat := (f (7 + 5 * j)).toNatClampNeg
def rB (f : Nat → Int32) (j : Nat) : Nat := (f (7 + 5 * j + 1)).toNatClampNeg
def rD (f : Nat → Int32) (j : Nat) : Nat := (f (7 + 5 * j + 2)).toNatClampNeg
def rL (f : Nat → Int32) (j : Nat) : Nat := (f (7 + 5 * j + 3)).toNatClampNeg
def wfN (f : Nat → Int32) (n : Nat) : Prop := n ≤ 17 ∧ ∀ j, j < n → f (7 + 5 * j) = nI (rA f j) ∧ rA f j < 10 ∧ f (7 + 5 * j + 1) = nI (rB f j) ∧ rB f j < 10 ∧ rA f j ≠ rB f j ∧ f (7 + 5 * j + 2) = nI (rD f j) ∧ 1 ≤ rD f j ∧ rD f j ≤ 9 ∧ f (7 + 5 * j + 3) = nI (rL f j) ∧ rL f j ≤ 7
theorem nI_nm1 {n : Nat} (h : n < 2 ^ 31) : nI n ≠ -1 := fun e => absurd (show nI n < 0 by rw [e]; decide) (nI_pos h)
theorem wfN.ne {f : Nat → Int32} {n j : Nat} (h : wfN f n) (hj : j < n) : f (7 + 5 * j) ≠ -1 ∧ f (7 + 5 * j + 1) ≠ -1 := by
  obtain ⟨a1, a2, b1, b2, _⟩ := h.2 j hj
  rw [a1, b1]
  exact ⟨nI_nm1 (by omega), nI_nm1 (by omega)⟩
section SPM
variable {d Lx : Nat} {ρ : List (Nat × Nat)} {Q : am_Q} {Rs : List (List (Nat × List Nat))}
theorem lp_fill {I : am_I} {L : am_L} {C : am_C} {x N : Nat} {v : Int32} (hN : (gg Lx ρ).2.1 x = .inr (0, N)) (hN2 : N < 2 ^ 31) (h : ∀ I', frc [x] I I' → (∀ k, k < N → I' x k = v) → Q none I' L (gg Lx ρ)) : ∀ m i I', i + m = N → frc [x] I I' → (∀ k, k < i → I' x k = v) → am_W am_all C e_Arrays_fill Q 5 [.ref x, .int v, .int (nI i), .int (nI N)] [] I' L (gg Lx ρ) 0 0
  | 0, i, I', e, hf, hv => by
    have e : i = N := e
    subst e
    exact sz_Arrays_fill_5 x v _ _ i (fun _ => h I' hf hv) (fun c => absurd c (nI_nlt (Nat.le_refl _) hN2)) (fun c => absurd c (nI_nlt (Nat.le_refl _) hN2)) (fun c => absurd c (nI_nlt (Nat.le_refl _) hN2))
  | m + 1, i, I', e, hf, hv => by
    refine sz_Arrays_fill_5 x v _ _ N (fun c => absurd (nI_lt (by omega) hN2) c) (fun _ => hN) (fun _ => vp_in_nI (by omega) hN2) (fun _ => ?_)
    rw [nI_clamp (by omega), nI_1]
    refine lp_fill hN hN2 h m (i + 1) _ (by omega) (hf.u (by simp)) (fun k hk => ?_)
    by_cases z : k = i
    · subst z; exact am_u_at
    · rw [am_u_nk z]; exact hv k (by omega)
theorem sp_fill {I : am_I} {L : am_L} {x N : Nat} {v : Int32} (hN : (gg Lx ρ).2.1 x = .inr (0, N)) (hN2 : N < 2 ^ 31) (h : ∀ I', frc [x] I I' → (∀ k, k < N → I' x k = v) → Q none I' L (gg Lx ρ)) : am_run (d + 1) m_Arrays_fill [.ref x, .int v] I L (gg Lx ρ) Q :=
  run_in rfl rfl ⟨rfl, rfl⟩ (sz_Arrays_fill_0 x v N hN (lp_fill hN hN2 h N 0 I (by omega) frc.rf (fun k hk => absurd hk (Nat.not_lt_zero k))))
/-- from its first place, from its second: may one drive -/
def uO (Rs : List (List (Nat × List Nat))) (f : Nat → Int32) (k : Int32) (j : Nat) : Bool := decide (pBrk Rs f j (f (7 + 5 * j)) k 0 = 0)
def vO (Rs : List (List (Nat × List Nat))) (f : Nat → Int32) (k : Int32) (j : Nat) : Bool := decide (pBrk Rs f j (f (7 + 5 * j + 1)) k 0 = 0)
theorem lp_look {I : am_I} {L : am_L} {r n : Nat} {f : Nat → Int32} {k : Int32} (hr : r ∈ rdl) (hR : rdR I r f n) (hwf : wfN f n) (hw : wfRs Rs) (hC : RCc I ρ Rs)
    (h : ∀ I' L', frc [26, 27, 28] I I' → (∀ a, a ≠ 23 → a ≠ 24 → L' a = L a) → (∀ j, j < n → I' 26 j = bI (uO Rs f k j = true) ∧ I' 27 j = bI (vO Rs f k j = true) ∧ I' 28 j = f (7 + 5 * j + 2)) → Q none I' L' (gg Lx ρ)) : ∀ m i I' L', i + m = n → frc [26, 27, 28] I I' → (∀ a, a ≠ 23 → a ≠ 24 → L' a = L a) → (∀ j, j < i → I' 26 j = bI (uO Rs f k j = true) ∧ I' 27 j = bI (vO Rs f k j = true) ∧ I' 28 j = f (7 + 5 * j + 2)) → am_W am_all (am_run (d + 3)) e_Finder_look Q 2 [.ref 25, .ref r, .int k, .int (nI i)] [] I' L' (gg Lx ρ) 0 0
  | 0, i, I', L', e, hf, hL, hv => by
    have e : i = n := e
    subst e
    have h6 : I' r 6 = nI i := by rw [hf r (by have := rdl_lt r hr; simp; omega)]; exact hR.2.1
    have hno : ¬ nI i < I' r 6 := by rw [h6]; exact nI_nlt (Nat.le_refl _) (by have := hwf.1; omega)
    exact sz_Finder_look_2 r _ _ hr (fun _ => h I' L' hf hL hv) (fun c => absurd c hno) (fun c => absurd c hno) (fun c => absurd c hno)
  | m + 1, i, I', L', e, hf, hL, hv => by
    have hn := hwf.1
    have hrl := rdl_lt r hr
    have hR' : rdR I' r f n := rdR_fr (fun a h1 h2 => hf a (by simp; omega)) hR
    have hC' : RCc I' ρ Rs := RCc_fr (hf 21 (by simp)) (fun a ha => hf a (by simp; omega)) hC
    have ei : (nI i).toNatClampNeg = i := nI_clamp (by omega)
    have v17 : vp_in (nI i) 17 := vp_in_nI (by omega) (by decide)
    refine sz_Finder_look_2 r _ _ hr (fun c => absurd (by rw [hR'.2.1]; exact nI_lt (by omega) (by omega)) c) (fun _ c => absurd (nI_lt (b := 17) (by omega) (by decide)) c) (fun _ _ => v17) (fun _ _ => ?_)
    rw [ei, (hR'.2.2.2.2 i (by omega)).1]
    refine sp_Laws_broken hr hR' hn (by omega) (hwf.ne (by omega)) hw hC' (fun L1 l1 => ?_)
    have step : ∀ b : Int32, b = bI (uO Rs f k i = true) → am_run (d + 3) m_Laws_broken [.ref 21, .ref r, .int (nI i), .int ((am_u I' 26 (nI i).toNatClampNeg b) (r + 2) (nI i).toNatClampNeg), .int k, .int 0] (am_u I' 26 (nI i).toNatClampNeg b) L1 (gg Lx ρ) (fun r' I2 L2 G2 => am_W am_all (am_run (d + 3)) e_Finder_look Q 69 [.ref 25, .ref r, .int k, .int (nI i)] (r'.toList ++ ([.int (nI i), .ref 27] : List Value)) I2 L2 G2 0 0) := by
      intro b hb
      rw [ei, am_u_ne (by omega), (hR'.2.2.2.2 i (by omega)).2.1]
      have hf2 : frc [26, 27, 28] I (am_u I' 26 i b) := hf.u (by simp)
      have hR2 : rdR (am_u I' 26 i b) r f n := rdR_fr (fun a h1 h2 => hf2 a (by simp; omega)) hR
      have hC2 : RCc (am_u I' 26 i b) ρ Rs := RCc_fr (hf2 21 (by simp)) (fun a ha => hf2 a (by simp; omega)) hC
      refine sp_Laws_broken hr hR2 hn (by omega) (hwf.ne (by omega)) hw hC2 (fun L2 l2 => ?_)
      have fin : ∀ b2 : Int32, b2 = bI (vO Rs f k i = true) → am_W am_all (am_run (d + 3)) e_Finder_look Q 2 [.ref 25, .ref r, .int k, .int (nI i + 1)] [] (am_u (am_u (am_u I' 26 i b) 27 (nI i).toNatClampNeg b2) 28 (nI i).toNatClampNeg ((am_u (am_u I' 26 i b) 27 (nI i).toNatClampNeg b2) (r + 3) (nI i).toNatClampNeg)) L2 (gg Lx ρ) 0 0 := by
        intro b2 hb2
        rw [ei, am_u_ne (by omega), (hR2.2.2.2.2 i (by omega)).2.2.1, nI_1]
        refine lp_look hr hR hwf hw hC h m (i + 1) _ L2 (by omega) ((hf2.u (by simp)).u (by simp)) (fun a h1 h2 => (l2 a h1 h2).trans ((l1 a h1 h2).trans (hL a h1 h2))) (fun j hj => ?_)
        by_cases z : j = i
        · subst z
          refine ⟨?_, ?_, am_u_at⟩
          · rw [am_u_ne (by decide), am_u_ne (by decide), am_u_at]; exact hb
          · rw [am_u_ne (by decide), am_u_at]; exact hb2
        · obtain ⟨z1, z2, z3⟩ := hv j (by omega)
          refine ⟨?_, ?_, ?_⟩
          · rw [am_u_ne (by decide), am_u_ne (by decide), am_u_nk z]; exact z1
          · rw [am_u_ne (by decide), am_u_nk z, am_u_ne (by decide)]; exact z2
          · rw [am_u_nk z, am_u_ne (by decide), am_u_ne (by decide)]; exact z3
      refine sz_Finder_look_69 r _ _ _ _ hr (fun _ => v17) (fun _ => v17) (fun c => fin 0 ?_) (fun _ => v17) (fun _ => v17) (fun c => fin 1 ?_)
      · exact (bI_f (fun z => c (of_decide_eq_true z))).symm
      · exact (bI_t (decide_eq_true c)).symm
    refine sz_Finder_look_38 r _ _ _ _ hr (fun _ => v17) (fun _ => v17) (fun c => step 0 ?_) (fun _ => v17) (fun _ => v17) (fun c => step 1 ?_)
    · exact (bI_f (fun z => c (of_decide_eq_true z))).symm
    · exact (bI_t (decide_eq_true c)).symm
theorem sp_Finder_look {I : am_I} {L : am_L} {r n : Nat} {f : Nat → Int32} {k : Int32} (hr : r ∈ rdl) (hR : rdR I r f n) (hwf : wfN f n) (hw : wfRs Rs) (hC : RCc I ρ Rs)
    (h : ∀ I' L', frc [26, 27, 28] I I' → (∀ a, a ≠ 23 → a ≠ 24 → L' a = L a) → (∀ j, j < n → I' 26 j = bI (uO Rs f k j = true) ∧ I' 27 j = bI (vO Rs f k j = true) ∧ I' 28 j = f (7 + 5 * j + 2)) → Q none I' L' (gg Lx ρ)) : am_run (d + 4) m_Finder_look [.ref 25, .ref r, .int k] I L (gg Lx ρ) Q :=
  run_in rfl rfl ⟨rfl, rfl⟩ (sz_Finder_look_0 r k hr (lp_look hr hR hwf hw hC h n 0 I L (by omega) frc.rf (fun _ _ _ => rfl) (fun j hj => absurd hj (Nat.not_lt_zero j))))
end SPM
section SPM
variable {d Lx : Nat} {ρ : List (Nat × Nat)} {Q : am_Q} {Rs : List (List (Nat × List Nat))}
theorem mem_relx {x A B c : Nat} {o : Bool} {J : am_I} {D : Nat → Nat} (h : ∀ p, p < 10 → J x p = nI (D p)) (hc : o = true ∧ D B + c < D A) : ∀ p, p < 10 → am_u J x A (nI (D B + c)) x p = nI (relx A B c o D p) := by
  intro p hp
  unfold relx
  rw [if_pos hc]
  by_cases e : p = A
  · subst e; rw [am_u_at, gU_at]
  · rw [am_u_nk e, gU_ne e]; exact h p hp
/-- what was looked at -/
def lkd (I : am_I) (n : Nat) (u v : Nat → Bool) (c : Nat → Nat) : Prop := ∀ j, j < n → I 26 j = bI (u j = true) ∧ I 27 j = bI (v j = true) ∧ I 28 j = nI (c j) ∧ 1 ≤ c j ∧ c j ≤ 2000
theorem lkd_fr {I I' : am_I} {n : Nat} {u v : Nat → Bool} {c : Nat → Nat} (h6 : I' 26 = I 26) (h7 : I' 27 = I 27) (h8 : I' 28 = I 28) (h : lkd I n u v c) : lkd I' n u v c := by
  unfold lkd; rw [h6, h7, h8]; exact h
theorem bI_ne {b : Bool} (h : ¬ bI (b = true) = 0) : b = true := bI1 h
theorem gChg_1 {a b c : Nat → Nat} {u v : Nat → Bool} {n : Nat} {D : Nat → Nat} : gChg a b c u v (n + 1) D = (gChg a b c u v n D || decide (u n = true ∧ gPass a b c u v n D (b n) + c n < gPass a b c u v n D (a n)) || decide (v n = true ∧ relx (a n) (b n) (c n) (u n) (gPass a b c u v n D) (a n) + c n < relx (a n) (b n) (c n) (u n) (gPass a b c u v n D) (b n))) := rfl
theorem lp_measIn {I : am_I} {L : am_L} {r n : Nat} {f : Nat → Int32} {u v : Nat → Bool} {c : Nat → Nat} {x2 x4 : Int32} {D : Nat → Nat} (hr : r ∈ rdl) (hR : rdR I r f n) (hwf : wfN f n) (hlk : lkd I n u v c) (hD : ∀ p, D p ≤ 1000000)
    (h : ∀ I' v5 v6 v7, frc [29] I I' → (∀ p, p < 10 → I' 29 p = nI (gPass (rA f) (rB f) c u v n D p)) → am_W am_all (am_run (d + 1)) e_Finder_measure Q 30 [.ref 25, .ref r, .int x2, .int (bI (gChg (rA f) (rB f) c u v n D = true)), .int (x4 + 1), v5, v6, v7] [] I' L (gg Lx ρ) 0 0) :
    ∀ m j I' v6 v7, j + m = n → frc [29] I I' → (∀ p, p < 10 → I' 29 p = nI (gPass (rA f) (rB f) c u v j D p)) → am_W am_all (am_run (d + 1)) e_Finder_measure Q 46 [.ref 25, .ref r, .int x2, .int (bI (gChg (rA f) (rB f) c u v j D = true)), .int x4, .int (nI j), v6, v7] [] I' L (gg Lx ρ) 0 0
  | 0, j, I', v6, v7, e, hf, hv => by
    have e : j = n := e
    subst e
    have h6 : I' r 6 = nI j := by rw [hf r (by have := rdl_lt r hr; simp; omega)]; exact hR.2.1
    have hno : ¬ nI j < I' r 6 := by rw [h6]; exact nI_nlt (Nat.le_refl _) (by have := hwf.1; omega)
    exact sy_Finder_measure_46 r _ _ _ _ _ _ hr (fun _ => h I' _ _ _ hf hv) (fun c => absurd c hno) (fun c => absurd c hno) (fun c => absurd c hno) (fun c => absurd c hno) (fun c => absurd c hno) (fun c => absurd c hno) (fun c => absurd c hno)
  | m + 1, j, I', v6, v7, e, hf, hv => by
    have hn := hwf.1
    have hrl := rdl_lt r hr
    have hj : j < n := by omega
    have hR' : rdR I' r f n := rdR_fr (fun a h1 h2 => hf a (by simp; omega)) hR
    obtain ⟨k1, k2, k3, k4, k5⟩ := lkd_fr (hf 26 (by simp)) (hf 27 (by simp)) (hf 28 (by simp)) hlk j hj
    obtain ⟨w1, w2, w3, w4, w5, w6, w7, w8, w9, w10⟩ := hwf.2 j hj
    obtain ⟨q1, q2, q3, q4, q5⟩ := hR'.2.2.2.2 j hj
    have ei : (nI j).toNatClampNeg = j := nI_clamp (by omega)
    have v17 : vp_in (nI j) 17 := vp_in_nI (by omega) (by decide)
    have hP : ∀ p, gPass (rA f) (rB f) c u v j D p ≤ 1000000 := fun p => Nat.le_trans (gPass_le j D p) (hD p)
    have eA : I' (r + 1) (nI j).toNatClampNeg = nI (rA f j) := by rw [ei, q1]; exact w1
    have eB : I' (r + 2) (nI j).toNatClampNeg = nI (rB f j) := by rw [ei, q2]; exact w3
    have cA : (nI (rA f j)).toNatClampNeg = rA f j := nI_clamp (by omega)
    have cB : (nI (rB f j)).toNatClampNeg = rB f j := nI_clamp (by omega)
    -- behind the second half
    have fin : ∀ (I2 : am_I) (D1 : Nat → Nat) (fl : Bool), frc [29] I I2 → D1 = relx (rA f j) (rB f j) (c j) (u j) (gPass (rA f) (rB f) c u v j D) → (∀ p, p < 10 → I2 29 p = nI (D1 p)) → fl = (gChg (rA f) (rB f) c u v j D || decide (u j = true ∧ gPass (rA f) (rB f) c u v j D (rB f j) + c j < gPass (rA f) (rB f) c u v j D (rA f j))) → am_W am_all (am_run (d + 1)) e_Finder_measure Q 139 [.ref 25, .ref r, .int x2, .int (bI (fl = true)), .int x4, .int (nI j), .int (nI (rA f j)), .int (nI (rB f j))] [] I2 L (gg Lx ρ) 0 0 := by
      intro I2 D1 fl hf2 hD1 hv2 hfl
      obtain ⟨k1, k2, k3, k4, k5⟩ := lkd_fr (hf2 26 (by simp)) (hf2 27 (by simp)) (hf2 28 (by simp)) hlk j hj
      have hP1 : ∀ p, D1 p ≤ 1000000 := fun p => by rw [hD1]; exact Nat.le_trans (relx_le _ _ _ _ _ _) (hP p)
      have e27 : I2 27 (nI j).toNatClampNeg = bI (v j = true) := by rw [ei]; exact k2
      have esum : I2 29 (nI (rA f j)).toNatClampNeg + I2 28 (nI j).toNatClampNeg = nI (D1 (rA f j) + c j) := by rw [cA, ei, hv2 _ w2, k3, nI_add]
      have eb : I2 29 (nI (rB f j)).toNatClampNeg = nI (D1 (rB f j)) := by rw [cB, hv2 _ w4]
      have hA := hP1 (rA f j)
      have hB := hP1 (rB f j)
      have go : ∀ (I3 : am_I) (fl2 : Bool), frc [29] I I3 → (∀ p, p < 10 → I3 29 p = nI (relx (rB f j) (rA f j) (c j) (v j) D1 p)) → fl2 = (fl || decide (v j = true ∧ D1 (rA f j) + c j < D1 (rB f j))) → am_W am_all (am_run (d + 1)) e_Finder_measure Q 198 [.ref 25, .ref r, .int x2, .int (bI (fl2 = true)), .int x4, .int (nI j), .int (nI (rA f j)), .int (nI (rB f j))] [] I3 L (gg Lx ρ) 0 0 := by
        intro I3 fl2 hf3 hv3 hfl2
        refine sy_Finder_measure_198 r _ _ _ _ _ _ hr ?_
        rw [nI_1]
        have efl : gChg (rA f) (rB f) c u v (j + 1) D = fl2 := by rw [gChg_1, hfl2, hfl, hD1]
        rw [← efl]
        exact lp_measIn hr hR hwf hlk hD h m (j + 1) I3 _ _ (by omega) hf3 (fun p hp => by
          rw [hv3 p hp, hD1]; rfl)
      refine sy_Finder_measure_139 r _ _ _ _ _ _ hr v17 (fun z => ?_) (fun _ => vp_in_nI w2 (by decide)) (fun _ => vp_in_nI w4 (by decide)) (fun z z2 => ?_) (fun z z2 => ?_)
      · have hvf : v j = false := by rw [e27] at z; cases hh : v j with
          | false => rfl
          | true => exact absurd hh (bI0 z)
        have hno : ¬ (v j = true ∧ D1 (rA f j) + c j < D1 (rB f j)) := fun y => by rw [hvf] at y; exact absurd y.1 (by decide)
        exact go I2 fl hf2 (fun p hp => by rw [relx_id hno]; exact hv2 p hp) (by rw [decide_eq_false hno, Bool.or_false])
      · rw [esum, eb] at z2
        have hno : ¬ (v j = true ∧ D1 (rA f j) + c j < D1 (rB f j)) := fun y => z2 (nI_lt y.2 (by omega))
        exact go I2 fl hf2 (fun p hp => by rw [relx_id hno]; exact hv2 p hp) (by rw [decide_eq_false hno, Bool.or_false])
      · rw [e27] at z
        rw [esum, eb] at z2
        have hyes : v j = true ∧ D1 (rA f j) + c j < D1 (rB f j) := ⟨bI1 z, (nI_ltI (by omega) (by omega)).mp z2⟩
        rw [esum, cB]
        have := go (am_u I2 29 (rB f j) (nI (D1 (rA f j) + c j))) true (hf2.u (by simp)) (mem_relx hv2 hyes) (by rw [decide_eq_true hyes, Bool.or_true])
        rw [bI_t rfl] at this
        exact this
    have e26 : I' 26 (nI j).toNatClampNeg = bI (u j = true) := by rw [ei]; exact k1
    have esum : I' 29 (I' (r + 2) (nI j).toNatClampNeg).toNatClampNeg + I' 28 (nI j).toNatClampNeg = nI (gPass (rA f) (rB f) c u v j D (rB f j) + c j) := by rw [eB, cB, ei, hv _ w4, k3, nI_add]
    have ea : I' 29 (I' (r + 1) (nI j).toNatClampNeg).toNatClampNeg = nI (gPass (rA f) (rB f) c u v j D (rA f j)) := by rw [eA, cA, hv _ w2]
    have hA := hP (rA f j)
    have hB := hP (rB f j)
    refine sy_Finder_measure_46 r _ _ _ _ _ _ hr (fun z => absurd (by rw [hR'.2.1]; exact nI_lt hj (by omega)) z) (fun _ z => absurd (nI_lt (b := 17) (by omega) (by decide)) z) (fun _ _ => v17) (fun _ _ z => ?_) (fun _ _ _ => by rw [eB]; exact vp_in_nI w4 (by decide)) (fun _ _ _ => by rw [eA]; exact vp_in_nI w2 (by decide)) (fun _ _ z z2 => ?_) (fun _ _ z z2 => ?_)
    · have huf : u j = false := by rw [e26] at z; cases hh : u j with
        | false => rfl
        | true => exact absurd hh (bI0 z)
      have hno : ¬ (u j = true ∧ gPass (rA f) (rB f) c u v j D (rB f j) + c j < gPass (rA f) (rB f) c u v j D (rA f j)) := fun y => by rw [huf] at y; exact absurd y.1 (by decide)
      rw [eA, eB]
      exact fin I' _ _ hf (relx_id hno).symm hv (by rw [decide_eq_false hno, Bool.or_false])
    · rw [esum, ea] at z2
      have hno : ¬ (u j = true ∧ gPass (rA f) (rB f) c u v j D (rB f j) + c j < gPass (rA f) (rB f) c u v j D (rA f j)) := fun y => z2 (nI_lt y.2 (by omega))
      rw [eA, eB]
      exact fin I' _ _ hf (relx_id hno).symm hv (by rw [decide_eq_false hno, Bool.or_false])
    · rw [e26] at z
      rw [esum, ea] at z2
      have hyes : u j = true ∧ gPass (rA f) (rB f) c u v j D (rB f j) + c j < gPass (rA f) (rB f) c u v j D (rA f j) := ⟨bI1 z, (nI_ltI (by omega) (by omega)).mp z2⟩
      rw [esum, eA, eB, cA]
      have := fin (am_u I' 29 (rA f j) (nI (gPass (rA f) (rB f) c u v j D (rB f j) + c j))) _ true (hf.u (by simp)) rfl (mem_relx hv hyes) (by rw [decide_eq_true hyes, Bool.or_true])
      rw [bI_t rfl] at this
      exact this
theorem lp_meas {I : am_I} {L : am_L} {r n t : Nat} {f : Nat → Int32} {u v : Nat → Bool} {c : Nat → Nat} {x2 : Int32} (hr : r ∈ rdl) (hR : rdR I r f n) (hwf : wfN f n) (hlk : lkd I n u v c) (ht : t < 10)
    (h : ∀ I', frc [29] I I' → (∀ p, p < 10 → I' 29 p = nI (gIt (rA f) (rB f) c u v n 9 (gInit t 1000000) p)) → Q none I' L (gg Lx ρ)) :
    ∀ m k I' (fl : Bool) v5 v6 v7, k + m = 10 → frc [29] I I' → (∀ p, p < 10 → I' 29 p = nI (gIt (rA f) (rB f) c u v n k (gInit t 1000000) p)) → (fl = false → gIt (rA f) (rB f) c u v n k (gInit t 1000000) = gIt (rA f) (rB f) c u v n 9 (gInit t 1000000)) → am_W am_all (am_run (d + 1)) e_Finder_measure Q 30 [.ref 25, .ref r, .int x2, .int (bI (fl = true)), .int (nI k), v5, v6, v7] [] I' L (gg Lx ρ) 0 0
  | 0, k, I', fl, v5, v6, v7, e, hf, hv, hfl => by
    have e : k = 10 := e
    subst e
    have ha : ∀ j, j < n → rA f j < 10 ∧ rB f j < 10 := fun j hj => ⟨(hwf.2 j hj).2.1, (hwf.2 j hj).2.2.2.1⟩
    have hc : ∀ j, j < n → 0 < c j := fun j hj => (hlk j hj).2.2.2.1
    refine sy_Finder_measure_30 r _ _ _ _ _ _ hr (fun _ => h I' hf (fun p hp => ?_)) (fun z => absurd z (by decide)) (fun z => absurd z (by decide))
    rw [hv p hp]
    exact congrArg nI (congrFun (gDst_fix (u := u) (v := v) (B := 1000000) ha hc ht) p)
  | m + 1, k, I', fl, v5, v6, v7, e, hf, hv, hfl => by
    have ha : ∀ j, j < n → rA f j < 10 ∧ rB f j < 10 := fun j hj => ⟨(hwf.2 j hj).2.1, (hwf.2 j hj).2.2.2.1⟩
    have hc : ∀ j, j < n → 0 < c j := fun j hj => (hlk j hj).2.2.2.1
    have hk10 : nI k < 10 := nI_lt (b := 10) (by omega) (by decide)
    refine sy_Finder_measure_30 r _ _ _ _ _ _ hr (fun z => absurd hk10 z) (fun _ z => ?_) (fun _ _ => ?_)
    · have hff : fl = false := by cases fl with
        | false => rfl
        | true => exact absurd rfl (bI0 z)
      exact h I' hf (fun p hp => by rw [hv p hp, hfl hff])
    · have hin := lp_measIn (d := d) (Lx := Lx) (ρ := ρ) (Q := Q) (L := L) (x2 := x2) (x4 := nI k) (D := gIt (rA f) (rB f) c u v n k (gInit t 1000000)) hr hR hwf hlk (fun p => gIt_B k p) (fun I2 w5 w6 w7 hf2 hv2 => by
        rw [nI_1]
        refine lp_meas hr hR hwf hlk ht h m (k + 1) I2 _ w5 w6 w7 (by omega) hf2 hv2 (fun hz => ?_)
        have hid := gChg_f n _ hz
        show gPass (rA f) (rB f) c u v n (gIt (rA f) (rB f) c u v n k (gInit t 1000000)) = _
        rw [hid]
        exact gDst_eq ha hc ht hid) n 0 I' v6 v7 (by omega) hf hv
      exact hin
theorem sp_Finder_measure {I : am_I} {L : am_L} {r n t P : Nat} {f : Nat → Int32} {u v : Nat → Bool} {c : Nat → Nat} (hr : r ∈ rdl) (hR : rdR I r f n) (hwf : wfN f n) (hlk : lkd I n u v c) (hP : f 0 = nI P) (hP10 : P ≤ 10) (ht : t < P)
    (h : ∀ I', frc [29] I I' → (∀ p, p < 10 → I' 29 p = nI (gIt (rA f) (rB f) c u v n 9 (gInit t 1000000) p)) → Q none I' L (gg Lx ρ)) : am_run (d + 2) m_Finder_measure [.ref 25, .ref r, .int (nI t)] I L (gg Lx ρ) Q := by
  have hrl := rdl_lt r hr
  refine run_in rfl rfl ⟨rfl, rfl⟩ (sy_Finder_measure_0 r _ hr (sp_fill (N := 10) rfl (by decide) (fun I1 f1 v1 => ?_)))
  have ht10 : t < 10 := by omega
  have hpl : hPl I1 r (nI t) := ⟨nI_pos (by omega), by rw [f1 r (by simp; omega), hR.1, hP]; exact nI_lt ht (by omega), nI_lt (b := 10) ht10 (by decide)⟩
  refine sy_Finder_measure_9 r _ _ _ _ _ _ hr (fun _ => vp_in_nI ht10 (by decide)) (fun _ => ?_) (fun z => absurd hpl z)
  rw [nI_clamp (by omega)]
  refine lp_meas hr hR hwf hlk ht10 h 10 0 _ true _ _ _ (by omega) (f1.u (by simp)) (fun p hp => ?_) (fun z => absurd z (by decide))
  show am_u I1 29 t 0 29 p = nI (gInit t 1000000 p)
  unfold gInit
  by_cases e : p = t
  · subst e; rw [am_u_at, if_pos rfl]; rfl
  · rw [am_u_nk e, if_neg e]; exact v1 p hp
end SPM
section SPM
variable {d Lx : Nat} {ρ : List (Nat × Nat)} {Q : am_Q} {Rs : List (List (Nat × List Nat))}
/-! ===== ways ===== -/
/-- the first of i .. i + m - 1 -/
def fnd (P : Nat → Bool) : Nat → Nat → Option Nat
  | 0, _ => none
  | m + 1, i => if P i = true then some i else fnd P m (i + 1)
theorem fnd_some {P : Nat → Bool} : ∀ {m i j : Nat}, fnd P m i = some j → i ≤ j ∧ j < i + m ∧ P j = true
  | 0, _, _, h => absurd h (by simp [fnd])
  | m + 1, i, j, h => by
    unfold fnd at h
    by_cases e : P i = true
    · rw [if_pos e] at h; cases h; exact ⟨Nat.le_refl _, by omega, e⟩
    · rw [if_neg e] at h
      obtain ⟨a, b, c⟩ := fnd_some h
      exact ⟨by omega, by omega, c⟩
theorem fnd_none {P : Nat → Bool} : ∀ {m i : Nat}, fnd P m i = none → ∀ j, i ≤ j → j < i + m → P j = false
  | 0, _, _, j, h1, h2 => absurd h2 (by omega)
  | m + 1, i, h, j, h1, h2 => by
    unfold fnd at h
    by_cases e : P i = true
    · rw [if_pos e] at h; cases h
    · rw [if_neg e] at h
      by_cases e2 : j = i
      · subst e2; simpa using e
      · exact fnd_none h j (by omega) (by omega)
def oI : Option Nat → Int32
  | some j => nI j
  | none => -1
def okR (a b c : Nat → Nat) (u v : Nat → Bool) (D : Nat → Nat) (p j : Nat) : Bool := decide ((a j = p ∧ u j = true ∧ D (b j) + c j = D p) ∨ (b j = p ∧ v j = true ∧ D (a j) + c j = D p))
def otN (a b : Nat → Nat) (j p : Nat) : Nat := if a j = p then b j else a j
def wy (a b c : Nat → Nat) (u v : Nat → Bool) (D : Nat → Nat) (n t : Nat) : Nat → Nat → List Nat
  | 0, _ => []
  | k + 1, p => if p = t then [] else (match fnd (okR a b c u v D p) n 0 with
    | some j => j :: wy a b c u v D n t k (otN a b j p)
    | none => [])
def nt (f : Nat → Int32) (j : Nat) (k : Int32) : Nat → Int32 := fun i => if i = 7 + 5 * j + 3 then k else if i = 7 + 5 * j + 4 then f i + 1 else if i = 4 then f 4 + 1 else f i
def nts (k : Int32) : (Nat → Int32) → List Nat → Nat → Int32
  | f, [] => f
  | f, j :: w => nts k (nt f j k) w
theorem lp_next {I : am_I} {L : am_L} {r n p : Nat} {f : Nat → Int32} {u v : Nat → Bool} {c : Nat → Nat} {D : Nat → Nat} (hr : r ∈ rdl) (hR : rdR I r f n) (hwf : wfN f n) (hlk : lkd I n u v c) (hD : ∀ q, q < 10 → I 29 q = nI (D q)) (hDB : ∀ q, D q ≤ 1000000) (hp : p < 10) : ∀ m j (x4 x5 : Value), j + m = n → Q (some (.int (oI (fnd (okR (rA f) (rB f) c u v D p) m j)))) I L (gg Lx ρ) → am_W am_all (am_run (d + 2)) e_Finder_nextRoad Q 2 [.ref 25, .ref r, .int (nI p), .int (nI j), x4, x5] [] I L (gg Lx ρ) 0 0
  | 0, j, x4, x5, e, h => by
    have e : j = n := e
    subst e
    have hno : ¬ nI j < I r 6 := by rw [hR.2.1]; exact nI_nlt (Nat.le_refl _) (by have := hwf.1; omega)
    refine sy_Finder_nextRoad_2 r _ _ _ _ hr (fun _ => h) ?_ ?_ ?_ ?_ ?_ ?_ ?_ ?_ ?_ ?_ ?_ ?_ ?_ <;> exact fun c => absurd c hno
  | m + 1, j, x4, x5, e, h => by
    have hn := hwf.1
    have hj : j < n := by omega
    obtain ⟨k1, k2, k3, k4, k5⟩ := hlk j hj
    obtain ⟨w1, w2, w3, w4, w5, w6, w7, w8, w9, w10⟩ := hwf.2 j hj
    obtain ⟨q1, q2, q3, q4, q5⟩ := hR.2.2.2.2 j hj
    have ei : (nI j).toNatClampNeg = j := nI_clamp (by omega)
    have ep : (nI p).toNatClampNeg = p := nI_clamp (by omega)
    have v17 : vp_in (nI j) 17 := vp_in_nI (by omega) (by decide)
    have v10 : vp_in (nI p) 10 := vp_in_nI hp (by decide)
    have c0 : nI j < I r 6 := by rw [hR.2.1]; exact nI_lt hj (by omega)
    have c17 : nI j < 17 := nI_lt (b := 17) (by omega) (by decide)
    have eA : I (r + 1) (nI j).toNatClampNeg = nI (rA f j) := by rw [ei, q1]; exact w1
    have hac := cAcr_n (p := nI p) hR hn hj
    rw [w1, w3] at hac
    have hpA : nI (rA f j) = nI p ↔ rA f j = p := nI_eq (by omega) (by omega)
    have hpB : nI (rB f j) = nI p ↔ rB f j = p := nI_eq (by omega) (by omega)
    have d1 := hDB (rA f j)
    have d2 := hDB (rB f j)
    have d3 := hDB p
    have skip : okR (rA f) (rB f) c u v D p j = false → ∀ y4 y5, am_W am_all (am_run (d + 2)) e_Finder_nextRoad Q 2 [.ref 25, .ref r, .int (nI p), .int (nI j + 1), y4, y5] [] I L (gg Lx ρ) 0 0 := by
      intro ok y4 y5
      rw [nI_1]
      refine lp_next hr hR hwf hlk hD hDB hp m (j + 1) y4 y5 (by omega) ?_
      unfold fnd at h
      rw [ok, if_neg (by decide)] at h
      exact h
    have take : okR (rA f) (rB f) c u v D p j = true → Q (some (.int (nI j))) I L (gg Lx ρ) := by
      intro ok
      unfold fnd at h
      rw [if_pos ok] at h
      exact h
    by_cases ha : rA f j = p
    · rw [if_pos (hpA.mpr ha)] at hac
      have e1 : I (r + 1) (nI j).toNatClampNeg = nI p := by rw [eA, ha]
      have c2 : ¬ cAcr I r (nI j) (nI p) = -1 := by rw [hac]; exact nI_nm1 (by omega)
      have e26 : I 26 (nI j).toNatClampNeg = bI (u j = true) := by rw [ei]; exact k1
      have hb : ¬ rB f j = p := fun z => w5 (ha.trans z.symm)
      have es : I 29 (cAcr I r (nI j) (nI p)).toNatClampNeg + I 28 (nI j).toNatClampNeg = nI (D (rB f j) + c j) := by rw [hac, nI_clamp (by omega), ei, hD _ w4, k3, nI_add]
      have ed : I 29 (nI p).toNatClampNeg = nI (D p) := by rw [ep, hD _ hp]
      refine sy_Finder_nextRoad_2 r _ _ _ _ hr (fun z => absurd c0 z) (fun _ z => absurd c17 z) (fun _ _ _ => v17) (fun _ _ _ z => absurd e1 z) (fun _ _ _ z => absurd e1 z) (fun _ _ _ z => absurd e1 z) (fun _ _ _ z => absurd e1 z) (fun _ _ _ z => absurd e1 z) (fun _ _ _ _ z => ?_) (fun _ _ _ _ _ => by rw [hac]; exact vp_in_nI w4 (by decide)) (fun _ _ _ _ _ => v10) (fun _ _ _ _ z z2 => ?_) (fun _ _ _ _ z z2 => ?_) (fun _ _ z => absurd z c2)
      · rw [e26] at z
        exact skip (decide_eq_false fun y => y.elim (fun y => bI0 z y.2.1) (fun y => hb y.1)) _ _
      · rw [es, ed] at z2
        exact skip (decide_eq_false fun y => y.elim (fun y => z2 (by rw [y.2.2])) (fun y => hb y.1)) _ _
      · rw [e26] at z
        rw [es, ed] at z2
        exact take (decide_eq_true (Or.inl ⟨ha, bI1 z, (nI_eq (by omega) (by omega)).mp z2⟩))
    · rw [if_neg (fun z => ha (hpA.mp z))] at hac
      have e1 : ¬ I (r + 1) (nI j).toNatClampNeg = nI p := by rw [eA]; exact fun z => ha (hpA.mp z)
      by_cases hb : rB f j = p
      · rw [if_pos (hpB.mpr hb)] at hac
        have c2 : ¬ cAcr I r (nI j) (nI p) = -1 := by rw [hac]; exact nI_nm1 (by omega)
        have e27 : I 27 (nI j).toNatClampNeg = bI (v j = true) := by rw [ei]; exact k2
        have es : I 29 (cAcr I r (nI j) (nI p)).toNatClampNeg + I 28 (nI j).toNatClampNeg = nI (D (rA f j) + c j) := by rw [hac, nI_clamp (by omega), ei, hD _ w2, k3, nI_add]
        have ed : I 29 (nI p).toNatClampNeg = nI (D p) := by rw [ep, hD _ hp]
        refine sy_Finder_nextRoad_2 r _ _ _ _ hr (fun z => absurd c0 z) (fun _ z => absurd c17 z) (fun _ _ _ => v17) (fun _ _ _ _ z => ?_) (fun _ _ _ _ _ => by rw [hac]; exact vp_in_nI w2 (by decide)) (fun _ _ _ _ _ => v10) (fun _ _ _ _ z z2 => ?_) (fun _ _ _ _ z z2 => ?_) (fun _ _ _ z => absurd z e1) (fun _ _ _ z => absurd z e1) (fun _ _ _ z => absurd z e1) (fun _ _ _ z => absurd z e1) (fun _ _ _ z => absurd z e1) (fun _ _ z => absurd z c2)
        · rw [e27] at z
          exact skip (decide_eq_false fun y => y.elim (fun y => ha y.1) (fun y => bI0 z y.2.1)) _ _
        · rw [es, ed] at z2
          exact skip (decide_eq_false fun y => y.elim (fun y => ha y.1) (fun y => z2 (by rw [y.2.2]))) _ _
        · rw [e27] at z
          rw [es, ed] at z2
          exact take (decide_eq_true (Or.inr ⟨hb, bI1 z, (nI_eq (by omega) (by omega)).mp z2⟩))
      · rw [if_neg (fun z => hb (hpB.mp z))] at hac
        refine sy_Finder_nextRoad_2 r _ _ _ _ hr (fun z => absurd c0 z) (fun _ z => absurd c17 z) (fun _ _ z => absurd hac z) (fun _ _ z => absurd hac z) (fun _ _ z => absurd hac z) (fun _ _ z => absurd hac z) (fun _ _ z => absurd hac z) (fun _ _ z => absurd hac z) (fun _ _ z => absurd hac z) (fun _ _ z => absurd hac z) (fun _ _ z => absurd hac z) (fun _ _ z => absurd hac z) (fun _ _ z => absurd hac z) (fun _ _ _ => ?_)
        exact skip (decide_eq_false fun y => y.elim (fun y => ha y.1) (fun y => hb y.1)) _ _
theorem sp_Finder_nextRoad {I : am_I} {L : am_L} {r n p : Nat} {f : Nat → Int32} {u v : Nat → Bool} {c : Nat → Nat} {D : Nat → Nat} (hr : r ∈ rdl) (hR : rdR I r f n) (hwf : wfN f n) (hlk : lkd I n u v c) (hD : ∀ q, q < 10 → I 29 q = nI (D q)) (hDB : ∀ q, D q ≤ 1000000) (hp : p < 10) (h : Q (some (.int (oI (fnd (okR (rA f) (rB f) c u v D p) n 0)))) I L (gg Lx ρ)) : am_run (d + 3) m_Finder_nextRoad [.ref 25, .ref r, .int (nI p)] I L (gg Lx ρ) Q :=
  run_in rfl rfl ⟨rfl, rfl⟩ (sy_Finder_nextRoad_0 r _ hr (lp_next hr hR hwf hlk hD hDB hp n 0 _ _ (by omega) h))
theorem otN_n {I : am_I} {r n j p : Nat} {f : Nat → Int32} (hR : rdR I r f n) (hwf : wfN f n) (hj : j < n) (hp : p < 10) (ht : rA f j = p ∨ rB f j = p) : cAcr I r (nI j) (nI p) = nI (otN (rA f) (rB f) j p) := by
  obtain ⟨w1, w2, w3, w4, w5, w6, w7, w8, w9, w10⟩ := hwf.2 j hj
  rw [cAcr_n hR hwf.1 hj, w1, w3]
  unfold otN
  by_cases ha : rA f j = p
  · rw [if_pos ha, if_pos (by rw [ha])]
  · rw [if_neg ha, if_neg (fun z => ha ((nI_eq (by omega) (by omega)).mp z)), if_pos (by rw [ht.resolve_left ha])]
theorem okR_t {a b c : Nat → Nat} {u v : Nat → Bool} {D : Nat → Nat} {p j : Nat} (hab : a j ≠ b j) (h : okR a b c u v D p j = true) : (a j = p ∨ b j = p) ∧ D (otN a b j p) + c j = D p := by
  have h := of_decide_eq_true h
  unfold otN
  by_cases ha : a j = p
  · rw [if_pos ha]
    rcases h with h | h
    · exact ⟨Or.inl ha, h.2.2⟩
    · exact absurd (ha.trans h.1.symm) hab
  · rw [if_neg ha]
    rcases h with h | h
    · exact absurd h.1 ha
    · exact ⟨Or.inr h.1, h.2.2⟩
/-- the distances -/
def dst (a b c : Nat → Nat) (u v : Nat → Bool) (n t : Nat) : Nat → Nat := gIt a b c u v n 9 (gInit t 1000000)
theorem dst_B {a b c : Nat → Nat} {u v : Nat → Bool} {n t : Nat} (p : Nat) : dst a b c u v n t p ≤ 1000000 := gIt_B 9 p
theorem wy_step {a b c : Nat → Nat} {u v : Nat → Bool} {n t p : Nat} (ha : ∀ j, j < n → a j < 10 ∧ b j < 10 ∧ a j ≠ b j) (hc : ∀ j, j < n → 0 < c j) (ht : t < 10) (hp : p ≠ t) (hB : dst a b c u v n t p < 1000000) :
    ∃ j, fnd (okR a b c u v (dst a b c u v n t) p) n 0 = some j ∧ j < n ∧ (a j = p ∨ b j = p) ∧ otN a b j p < 10 ∧ dst a b c u v n t (otN a b j p) < dst a b c u v n t p := by
  obtain ⟨i, hi, hor⟩ := gDst_road (u := u) (v := v) (B := 1000000) (fun j hj => ⟨(ha j hj).1, (ha j hj).2.1⟩) hc ht hp hB
  cases e : fnd (okR a b c u v (dst a b c u v n t) p) n 0 with
  | none =>
    have h1 := fnd_none e i (by omega) (by omega)
    have h2 : okR a b c u v (dst a b c u v n t) p i = true := decide_eq_true (by
      rcases hor with h | h
      · exact Or.inl ⟨h.1.symm, h.2.1, h.2.2⟩
      · exact Or.inr ⟨h.1.symm, h.2.1, h.2.2⟩)
    rw [h1] at h2
    exact absurd h2 (by decide)
  | some j =>
    obtain ⟨h1, h2, h3⟩ := fnd_some e
    obtain ⟨g1, g2⟩ := okR_t (ha j (by omega)).2.2 h3
    refine ⟨j, rfl, by omega, g1, ?_, ?_⟩
    · unfold otN; split
      · exact (ha j (by omega)).2.1
      · exact (ha j (by omega)).1
    · have := hc j (by omega); omega
def wI : Option Nat → Int32
  | some j => nI j
  | none => -2
theorem cCost_n {I : am_I} {D : Nat → Nat} {p : Nat} (hD : ∀ q, q < 10 → I 29 q = nI (D q)) (hp : p < 10) (hB : D p ≤ 1000000) : cCost I (nI p) = if D p < 1000000 then nI (D p) else -2 := by
  unfold cCost
  rw [nI_clamp (by omega), hD p hp]
  by_cases e : D p < 1000000
  · rw [if_pos e, if_pos ⟨nI_pos (by omega), nI_lt (b := 10) hp (by decide), nI_lt (b := 1000000) e (by decide)⟩]
  · rw [if_neg e, if_neg (fun z => e ((nI_ltI (b := 1000000) (by omega) (by decide)).mp z.2.2))]
theorem lp_row {I : am_I} {L : am_L} {r n t k : Nat} {x2 : Int32} {f : Nat → Int32} {u v : Nat → Bool} {c : Nat → Nat} {D : Nat → Nat} (hr : r ∈ rdl) (hR : rdR I r f n) (hwf : wfN f n) (hlk : lkd I n u v c) (hD : ∀ q, q < 10 → I 29 q = nI (D q)) (hDB : ∀ q, D q ≤ 1000000) (ht : t < 10) (hk : k < 2 ^ 31) : ∀ m i p (x7 : Value), i + m = 10 → p < 10 → i ≤ k → Q (some (.int (wI ((wy (rA f) (rB f) c u v D n t m p)[k - i]?)))) I L (gg Lx ρ) → am_W am_all (am_run (d + 3)) e_Finder_roadOfWay Q 19 [.ref 25, .ref r, .int x2, .int (nI t), .int (nI k), .int (nI p), .int (nI i), x7] [] I L (gg Lx ρ) 0 0
  | 0, i, p, x7, e, hp, hik, h => by
    have e : i = 10 := e
    subst e
    exact sy_Finder_roadOfWay_19 r _ _ _ _ _ _ hr (fun _ => h) (fun z => absurd z (by decide)) (fun z => absurd z (by decide))
  | m + 1, i, p, x7, e, hp, hik, h => by
    have c10 : nI i < 10 := nI_lt (b := 10) (by omega) (by decide)
    have hpt : nI p = nI t ↔ p = t := nI_eq (by omega) (by omega)
    unfold wy at h
    refine sy_Finder_roadOfWay_19 r _ _ _ _ _ _ hr (fun z => absurd c10 z) (fun _ z => ?_) (fun _ z => ?_)
    · rw [if_pos (hpt.mp z)] at h; exact h
    · rw [if_neg (fun y => z (hpt.mpr y))] at h
      refine sp_Finder_nextRoad hr hR hwf hlk hD hDB hp ?_
      cases ef : fnd (okR (rA f) (rB f) c u v D p) n 0 with
      | none =>
        rw [ef] at h
        exact sy_Finder_roadOfWay_39 r _ _ _ _ _ _ _ hr (fun z => absurd rfl z) (fun z => absurd rfl z) (fun _ => h)
      | some j =>
        rw [ef] at h
        obtain ⟨h1, h2, h3⟩ := fnd_some ef
        have hj : j < n := by omega
        have hn := hwf.1
        obtain ⟨w1, w2, w3, w4, w5, _⟩ := hwf.2 j hj
        have ho := okR_t w5 h3
        refine sy_Finder_roadOfWay_39 r _ _ _ _ _ _ _ hr (fun _ z2 => ?_) (fun _ z2 => ?_) (fun z => absurd z (nI_nm1 (by omega)))
        · rw [nI_1]
          show am_W am_all (am_run (d + 3)) e_Finder_roadOfWay Q 19 [.ref 25, .ref r, .int x2, .int (nI t), .int (nI k), .int (cAcr I r (nI j) (nI p)), .int (nI (i + 1)), .int (nI j)] [] I L (gg Lx ρ) 0 0
          rw [otN_n hR hwf hj hp ho.1]
          have hne : ¬ i = k := fun y => z2 (by rw [y])
          refine lp_row hr hR hwf hlk hD hDB ht hk m (i + 1) _ _ (by omega) (by unfold otN; split; exact w4; exact w2) (by omega) ?_
          rw [show k - i = (k - (i + 1)) + 1 by omega, List.getElem?_cons_succ] at h
          exact h
        · have hik2 : i = k := (nI_eq (by omega) hk).mp z2
          rw [show k - i = 0 by omega, List.getElem?_cons_zero] at h
          exact h
theorem sp_Finder_roadOfWay {I : am_I} {L : am_L} {r n t k p : Nat} {f : Nat → Int32} {u v : Nat → Bool} {c : Nat → Nat} {D : Nat → Nat} (hr : r ∈ rdl) (hR : rdR I r f n) (hwf : wfN f n) (hlk : lkd I n u v c) (hD : ∀ q, q < 10 → I 29 q = nI (D q)) (hDB : ∀ q, D q ≤ 1000000) (ht : t < 10) (hk : k < 2 ^ 31) (hp : p < 10)
    (h : Q (some (.int (if D p < 1000000 then wI ((wy (rA f) (rB f) c u v D n t 10 p)[k]?) else -2))) I L (gg Lx ρ)) : am_run (d + 4) m_Finder_roadOfWay [.ref 25, .ref r, .int (nI p), .int (nI t), .int (nI k)] I L (gg Lx ρ) Q := by
  have hc := cCost_n hD hp (hDB p)
  refine run_in rfl rfl ⟨rfl, rfl⟩ (sy_Finder_roadOfWay_0 r _ _ _ hr (fun z => ?_) (fun z => ?_))
  · rw [hc] at z
    by_cases e : D p < 1000000
    · rw [if_pos e] at h
      exact lp_row (i := 0) hr hR hwf hlk hD hDB ht hk 10 p _ (by omega) hp (by omega) h
    · rw [if_neg e] at z; exact absurd rfl z
  · rw [hc] at z
    by_cases e : D p < 1000000
    · rw [if_pos e] at z
      exact absurd (show nI (D p) < 0 by rw [z]; decide) (nI_pos (by omega))
    · rw [if_neg e] at h; exact h
end SPM
section SPM
variable {d Lx : Nat} {ρ : List (Nat × Nat)} {Q : am_Q} {Rs : List (List (Nat × List Nat))}
theorem nt_o {f : Nat → Int32} {j i : Nat} {k : Int32} (h1 : i ≠ 7 + 5 * j + 3) (h2 : i ≠ 7 + 5 * j + 4) (h3 : i ≠ 4) : nt f j k i = f i := by
  unfold nt; rw [if_neg h1, if_neg h2, if_neg h3]
theorem nt_3 {f : Nat → Int32} {j : Nat} {k : Int32} : nt f j k (7 + 5 * j + 3) = k := if_pos rfl
theorem nt_4 {f : Nat → Int32} {j : Nat} {k : Int32} : nt f j k (7 + 5 * j + 4) = f (7 + 5 * j + 4) + 1 := by
  unfold nt; rw [if_neg (by omega), if_pos rfl]
theorem nt_all {f : Nat → Int32} {j : Nat} {k : Int32} : nt f j k 4 = f 4 + 1 := by
  unfold nt; rw [if_neg (by omega), if_neg (by omega), if_pos rfl]
theorem rA_nt {f : Nat → Int32} {j : Nat} {k : Int32} : rA (nt f j k) = rA f := funext fun i => by unfold rA; rw [nt_o (by omega) (by omega) (by omega)]
theorem rB_nt {f : Nat → Int32} {j : Nat} {k : Int32} : rB (nt f j k) = rB f := funext fun i => by unfold rB; rw [nt_o (by omega) (by omega) (by omega)]
theorem rD_nt {f : Nat → Int32} {j : Nat} {k : Int32} : rD (nt f j k) = rD f := funext fun i => by unfold rD; rw [nt_o (by omega) (by omega) (by omega)]
theorem wfN_nt {f : Nat → Int32} {j n kk : Nat} {k : Int32} (h : wfN f n) (hk : k = nI kk) (hk7 : kk ≤ 7) : wfN (nt f j k) n := by
  refine ⟨h.1, fun i hi => ?_⟩
  obtain ⟨w1, w2, w3, w4, w5, w6, w7, w8, w9, w10⟩ := h.2 i hi
  rw [rA_nt, rB_nt, rD_nt, nt_o (i := 7 + 5 * i) (by omega) (by omega) (by omega), nt_o (i := 7 + 5 * i + 1) (by omega) (by omega) (by omega), nt_o (i := 7 + 5 * i + 2) (by omega) (by omega) (by omega)]
  refine ⟨w1, w2, w3, w4, w5, w6, w7, w8, ?_⟩
  by_cases e : i = j
  · subst e
    have : rL (nt f i k) i = kk := by unfold rL; rw [nt_3, hk, nI_clamp (by omega)]
    rw [this, nt_3]; exact ⟨hk, hk7⟩
  · have : rL (nt f j k) i = rL f i := by unfold rL; rw [nt_o (by omega) (by omega) (by omega)]
    rw [this, nt_o (by omega) (by omega) (by omega)]; exact ⟨w9, w10⟩
theorem sp_Roads_note {I : am_I} {L : am_L} {r n j : Nat} {f : Nat → Int32} {k : Int32} (hr : r ∈ rdl) (hR : rdR I r f n) (hn : n ≤ 17) (hj : j < n) (h : ∀ I', frc [r, r + 4, r + 5] I I' → rdR I' r (nt f j k) n → Q none I' L (gg Lx ρ)) : am_run (d + 2) m_Roads_note [.ref r, .int (nI j), .int k] I L (gg Lx ρ) Q := by
  have hrd : hRd I r (nI j) := ⟨nI_pos (by omega), by rw [hR.2.1]; exact nI_lt hj (by omega), nI_lt (b := 17) (by omega) (by decide)⟩
  refine run_in rfl rfl ⟨rfl, rfl⟩ (sy_Roads_note_0 r _ _ hr (fun z => absurd hrd z) (fun _ => vp_in_nI (by omega) (by decide)) (fun _ => ?_))
  have ei : (nI j).toNatClampNeg = j := nI_clamp (by omega)
  rw [ei]
  refine h _ (((frc.rf.u (by simp)).u (by simp)).u (by simp)) ⟨?_, ?_, ?_, ?_, fun i hi => ?_⟩
  · rw [am_u_nk (by decide), am_u_ne (by omega), am_u_ne (by omega), nt_o (by omega) (by omega) (by omega)]; exact hR.1
  · rw [am_u_nk (by decide), am_u_ne (by omega), am_u_ne (by omega)]; exact hR.2.1
  · rw [am_u_at, am_u_ne (by omega), am_u_ne (by omega), nt_all, hR.2.2.1]
  · rw [am_u_nk (by decide), am_u_ne (by omega), am_u_ne (by omega), nt_o (by omega) (by omega) (by omega)]; exact hR.2.2.2.1
  · obtain ⟨q1, q2, q3, q4, q5⟩ := hR.2.2.2.2 i hi
    refine ⟨?_, ?_, ?_, ?_, ?_⟩
    · rw [am_u_ne (by omega), am_u_ne (by omega), am_u_ne (by omega), nt_o (by omega) (by omega) (by omega)]; exact q1
    · rw [am_u_ne (by omega), am_u_ne (by omega), am_u_ne (by omega), nt_o (by omega) (by omega) (by omega)]; exact q2
    · rw [am_u_ne (by omega), am_u_ne (by omega), am_u_ne (by omega), nt_o (by omega) (by omega) (by omega)]; exact q3
    · rw [am_u_ne (by omega), am_u_ne (by omega)]
      by_cases e : i = j
      · subst e; rw [am_u_at, nt_3]
      · rw [am_u_nk e, nt_o (by omega) (by omega) (by omega)]; exact q4
    · rw [am_u_ne (by omega)]
      by_cases e : i = j
      · subst e; rw [am_u_at, nt_4, am_u_ne (by omega), q5]
      · rw [am_u_nk e, am_u_ne (by omega), nt_o (by omega) (by omega) (by omega)]; exact q5
theorem lp_go {I : am_I} {L : am_L} {r n t kk : Nat} {x3 x5 k : Int32} {a b : Nat → Nat} {u v : Nat → Bool} {c : Nat → Nat} {D : Nat → Nat} (hr : r ∈ rdl) (hlk : lkd I n u v c) (hD : ∀ q, q < 10 → I 29 q = nI (D q)) (hDB : ∀ q, D q ≤ 1000000) (ht : t < 10) (hk : k = nI kk) (hk7 : kk ≤ 7) : ∀ m i p (I' : am_I) (f : Nat → Int32) (x8 : Value), i + m = 10 → p < 10 → frc [r, r + 4, r + 5] I I' → rdR I' r f n → wfN f n → rA f = a → rB f = b → (∀ I2, frc [r, r + 4, r + 5] I I2 → rdR I2 r (nts k f (wy a b c u v D n t m p)) n → Q (some (.int x5)) I2 L (gg Lx ρ)) → am_W am_all (am_run (d + 3)) e_Finder_go Q 36 [.ref 25, .ref r, .int k, .int x3, .int (nI t), .int x5, .int (nI p), .int (nI i), x8] [] I' L (gg Lx ρ) 0 0
  | 0, i, p, I', f, x8, e, hp, hf, hR, hwf, hA, hB, h => by
    have e : i = 10 := e
    subst e
    exact sy_Finder_go_36 r _ _ _ _ _ _ _ hr (fun _ => h I' hf hR) (fun z => absurd z (by decide)) (fun z => absurd z (by decide))
  | m + 1, i, p, I', f, x8, e, hp, hf, hR, hwf, hA, hB, h => by
    have hrl := rdl_lt r hr
    have c10 : nI i < 10 := nI_lt (b := 10) (by omega) (by decide)
    have hpt : nI p = nI t ↔ p = t := nI_eq (by omega) (by omega)
    unfold wy at h
    refine sy_Finder_go_36 r _ _ _ _ _ _ _ hr (fun z => absurd c10 z) (fun _ z => ?_) (fun _ z => ?_)
    · rw [if_pos (hpt.mp z)] at h; exact h I' hf hR
    · rw [if_neg (fun y => z (hpt.mpr y))] at h
      have hlk' : lkd I' n u v c := lkd_fr (hf 26 (by simp; omega)) (hf 27 (by simp; omega)) (hf 28 (by simp; omega)) hlk
      have hD' : ∀ q, q < 10 → I' 29 q = nI (D q) := fun q hq => by rw [hf 29 (by simp; omega)]; exact hD q hq
      refine sp_Finder_nextRoad hr hR hwf hlk' hD' hDB hp ?_
      rw [hA, hB]
      cases ef : fnd (okR a b c u v D p) n 0 with
      | none =>
        rw [ef] at h
        exact sy_Finder_go_57 r _ _ _ _ _ _ _ _ hr (fun z => absurd rfl z) (fun _ => h I' hf hR)
      | some j =>
        rw [ef] at h
        obtain ⟨h1, h2, h3⟩ := fnd_some ef
        have hj : j < n := by omega
        have hn := hwf.1
        obtain ⟨w1, w2, w3, w4, w5, _⟩ := hwf.2 j hj
        rw [hA, hB] at w5
        have ho := okR_t w5 h3
        refine sy_Finder_go_57 r _ _ _ _ _ _ _ _ hr (fun _ => ?_) (fun z => absurd z (nI_nm1 (by omega)))
        refine sp_Roads_note hr hR hn hj (fun I2 f2 hR2 => ?_)
        show am_W am_all (am_run (d + 3)) e_Finder_go Q 85 [.ref 25, .ref r, .int k, .int x3, .int (nI t), .int x5, .int (cAcr I' r (nI j) (nI p)), .int (nI i), .int (nI j)] [] I2 L (gg Lx ρ) 0 0
        rw [otN_n hR hwf hj hp (by rw [hA, hB]; exact ho.1), hA, hB]
        refine sy_Finder_go_85 r _ _ _ _ _ _ _ hr ?_
        rw [nI_1]
        exact lp_go hr hlk hD hDB ht hk hk7 m (i + 1) _ I2 (nt f j k) _ (by omega) (by unfold otN; rw [← hA, ← hB]; split; exact w4; exact w2) (hf.tr f2) hR2 (wfN_nt hwf hk hk7) (rA_nt.trans hA) (rB_nt.trans hB) h
/-- by a kind, to a place: how far, by which way, and what becomes of the roads -/
def pD (Rs : List (List (Nat × List Nat))) (f : Nat → Int32) (n : Nat) (k : Int32) (t : Nat) : Nat → Nat := dst (rA f) (rB f) (rD f) (uO Rs f k) (vO Rs f k) n t
def pW (Rs : List (List (Nat × List Nat))) (f : Nat → Int32) (n : Nat) (k : Int32) (t p : Nat) : List Nat := wy (rA f) (rB f) (rD f) (uO Rs f k) (vO Rs f k) (pD Rs f n k t) n t 10 p
def pG (Rs : List (List (Nat × List Nat))) (f : Nat → Int32) (n : Nat) (k : Int32) (t p : Nat) : Nat → Int32 := nts k f (pW Rs f n k t p)
theorem lkd_look {I : am_I} {n : Nat} {f : Nat → Int32} {k : Int32} (hwf : wfN f n) (h : ∀ j, j < n → I 26 j = bI (uO Rs f k j = true) ∧ I 27 j = bI (vO Rs f k j = true) ∧ I 28 j = f (7 + 5 * j + 2)) : lkd I n (uO Rs f k) (vO Rs f k) (rD f) := fun j hj => by
  obtain ⟨h1, h2, h3⟩ := h j hj
  obtain ⟨w1, w2, w3, w4, w5, w6, w7, w8, w9, w10⟩ := hwf.2 j hj
  exact ⟨h1, h2, h3.trans w6, w7, by omega⟩
theorem sp_Finder_go {I : am_I} {L : am_L} {r n t p P kk : Nat} {f : Nat → Int32} {k : Int32} (hr : r ∈ rdl) (hR : rdR I r f n) (hwf : wfN f n) (hw : wfRs Rs) (hC : RCc I ρ Rs) (hP : f 0 = nI P) (hP10 : P ≤ 10) (ht : t < P) (hp : p < 10) (hk : k = nI kk) (hk7 : kk ≤ 7)
    (h1 : pD Rs f n k t p < 1000000 → ∀ I' L', frc [26, 27, 28, 29, r, r + 4, r + 5] I I' → (∀ a, a ≠ 23 → a ≠ 24 → L' a = L a) → rdR I' r (pG Rs f n k t p) n → Q (some (.int (nI (pD Rs f n k t p)))) I' L' (gg Lx ρ))
    (h0 : ¬ pD Rs f n k t p < 1000000 → ∀ I' L', frc [26, 27, 28, 29] I I' → (∀ a, a ≠ 23 → a ≠ 24 → L' a = L a) → Q (some (.int (-2))) I' L' (gg Lx ρ)) :
    am_run (d + 5) m_Finder_go [.ref 25, .ref r, .int k, .int (nI p), .int (nI t)] I L (gg Lx ρ) Q := by
  have hrl := rdl_lt r hr
  refine run_in rfl rfl ⟨rfl, rfl⟩ (sy_Finder_go_0 (d := d + 2) r _ _ _ hr (sp_Finder_look hr hR hwf hw hC (fun I1 L1 f1 l1 v1 => sy_Finder_go_6 (d := d + 2) r _ _ _ _ _ _ _ hr ?_)))
  have hlk1 := lkd_look hwf v1
  have hR1 : rdR I1 r f n := rdR_fr (fun a h1 h2 => f1 a (by simp; omega)) hR
  refine sp_Finder_measure hr hR1 hwf hlk1 hP hP10 ht (fun I2 f2 v2 => ?_)
  have hlk2 := lkd_fr (f2 26 (by simp)) (f2 27 (by simp)) (f2 28 (by simp)) hlk1
  have hR2 : rdR I2 r f n := rdR_fr (fun a h1 h2 => f2 a (by simp; omega)) hR1
  have f12 : frc [26, 27, 28, 29] I I2 := (f1.w (by simp)).tr (f2.w (by simp))
  have v2' : ∀ q, q < 10 → I2 29 q = nI (pD Rs f n k t q) := v2
  have hc := cCost_n v2' hp (dst_B p)
  refine sy_Finder_go_13 (d := d + 2) r _ _ _ _ _ _ _ hr (fun z => ?_) (fun z => ?_)
  · rw [hc] at z ⊢
    by_cases e : pD Rs f n k t p < 1000000
    · rw [if_pos e]
      exact lp_go (i := 0) hr hlk2 v2' (fun q => dst_B q) (by omega) hk hk7 10 p I2 f _ (by omega) hp frc.rf hR2 hwf rfl rfl (fun I3 f3 hR3 => h1 e I3 L1 ((f12.w (by simp)).tr (f3.w (by simp))) l1 hR3)
    · rw [if_neg e] at z; exact absurd rfl z
  · rw [hc] at z
    by_cases e : pD Rs f n k t p < 1000000
    · rw [if_pos e] at z
      exact absurd (show nI (pD Rs f n k t p) < 0 by rw [z]; decide) (nI_pos (by omega))
    · exact h0 e I2 L1 f12 l1
end SPM
/-! ===== the reference's ways ===== -/
/-- of the reference's object only the fields F are changed, of the others the cells S -/
def frm (S F : List Nat) (I I' : am_I) : Prop := (∀ a, a ≠ 186 → a ∉ S → I' a = I a) ∧ ∀ k, k ∉ F → I' 186 k = I 186 k
theorem frm.rf {S F : List Nat} {I : am_I} : frm S F I I := ⟨fun _ _ _ => rfl, fun _ _ => rfl⟩
theorem frm.tr {S F : List Nat} {I I' I2 : am_I} (h : frm S F I I') (g : frm S F I' I2) : frm S F I I2 := ⟨fun a z y => (g.1 a z y).trans (h.1 a z y), fun k z => (g.2 k z).trans (h.2 k z)⟩
theorem frm.w {S F S' F' : List Nat} {I I' : am_I} (h : frm S F I I') (hs : ∀ a ∈ S, a ∈ S') (hf : ∀ k ∈ F, k ∈ F') : frm S' F' I I' := ⟨fun a z y => h.1 a z fun q => y (hs a q), fun k z => h.2 k fun q => z (hf k q)⟩
theorem frm.u {S F : List Nat} {I I' : am_I} (h : frm S F I I') {a k : Nat} {v : Int32} (ha : a ∈ S) (h6 : a ≠ 186) : frm S F I (am_u I' a k v) := ⟨fun b z y => by
  rw [am_u_ne (fun (e : b = a) => y (e ▸ ha))]; exact h.1 b z y, fun j z => by rw [am_u_ne (Ne.symm h6)]; exact h.2 j z⟩
theorem frm.uf {S F : List Nat} {I I' : am_I} (h : frm S F I I') {k : Nat} {v : Int32} (hk : k ∈ F) : frm S F I (am_u I' 186 k v) := ⟨fun b z y => by
  rw [am_u_ne z]; exact h.1 b z y, fun j z => by rw [am_u_nk (fun (e : j = k) => z (e ▸ hk))]; exact h.2 j z⟩
theorem fr24.m {I I' : am_I} (h : fr24 I I') : frm [] [24] I I' := ⟨fun a z _ => h.c z, fun k z => h 186 k fun y => z (by rw [y.2]; simp)⟩
theorem frm.M {S F : List Nat} {I I' : am_I} (h : frm S F I I') (hS : 188 ∉ S ∧ 190 ∉ S ∧ 191 ∉ S) (hF : 2 ∉ F) {Rs : List (List (Nat × List Nat))} (hM : RCm I Rs) : RCm I' Rs :=
  RCm_fr (h.2 2 hF) (h.1 188 (by decide) hS.1) (h.1 190 (by decide) hS.2.1) (h.1 191 (by decide) hS.2.2) hM
section MWY
variable {d Lx : Nat} {ρ : List (Nat × Nat)} {Q : am_Q} {Rs : List (List (Nat × List Nat))}
theorem k2 (j w : Nat) : (2 * nI j) + nI w = nI (2 * j + w) := by
  rw [show (2 : Int32) = nI 2 from rfl, pk_mul, nI_add]
theorem lp_marks {I : am_I} {L : am_L} {n kk : Nat} {k : Int32} (hn : I 186 29 = nI n) (hwf : wfN (I 198) n) (hk : k = nI kk) (hk7 : kk ≤ 7) (hfo : foR Rs (I 198 6)) (hw : wfRs Rs) (hM : RCm I Rs)
    (h : ∀ I' L', frm [199] [24] I I' → (∀ a, a ≠ 196 → a ≠ 197 → L' a = L a) → (∀ j, j < n → I' 199 (2 * j) = bI (uO Rs (I 198) k j = true) ∧ I' 199 (2 * j + 1) = bI (vO Rs (I 198) k j = true)) → Q none I' L' (gg Lx ρ)) : ∀ m i I' L' (x3 : Value), i + m = n → frm [199] [24] I I' → (∀ a, a ≠ 196 → a ≠ 197 → L' a = L a) → (∀ j, j < i → I' 199 (2 * j) = bI (uO Rs (I 198) k j = true) ∧ I' 199 (2 * j + 1) = bI (vO Rs (I 198) k j = true)) → am_W am_all (am_run (d + 5)) e_Model_marks Q 2 [.ref 186, .int k, .int (nI i), x3] [] I' L' (gg Lx ρ) 0 0
  | 0, i, I', L', x3, e, hf, hL, hv => by
    have e : i = n := e
    subst e
    have hno : ¬ nI i < I' 186 29 := by rw [hf.2 29 (by simp), hn]; exact nI_nlt (Nat.le_refl _) (by have := hwf.1; omega)
    exact sy_Model_marks_2 (d := d + 4) _ _ _ (fun _ => h I' L' hf hL hv) (fun z => absurd z hno)
  | m + 1, i, I', L', x3, e, hf, hL, hv => by
    have hn17 := hwf.1
    have e198 : I' 198 = I 198 := hf.1 198 (by decide) (by simp)
    have hk0 : ¬ k < 0 := by rw [hk]; exact nI_pos (by omega)
    obtain ⟨w1, w2, w3, w4, w5, w6, w7, w8, w9, w10⟩ := hwf.2 i (by omega)
    have hl0 : ¬ I 198 (7 + 5 * i + 3) < 0 := by rw [w9]; exact nI_pos (by omega)
    have hM' : RCm I' Rs := hf.M (by simp) (by simp) hM
    refine sy_Model_marks_2 (d := d + 4) _ _ _ (fun z => absurd (by rw [hf.2 29 (by simp), hn]; exact nI_lt (by omega) (by omega)) z) (fun _ => ?_)
    refine sy_Model_marks_12 (d := d + 4) _ _ _ (fun z => absurd (by decide) z) (fun _ => oR_n (c := 0) (by omega)) (fun _ => ?_)
    rw [show mR I' (nI i) 0 = I' 198 (7 + 5 * i) from mR_n (c := 0) (by omega)]
    refine sp_Model_broken (by omega) hk0 (by rw [e198]; exact hl0) (by rw [e198]; exact hfo) hw hM' (fun I1 L1 f1 l1 => ?_)
    have ei0 : (2 * nI i) + (0 : Int32) = nI (2 * i) := k2 i 0
    have ei1 : (2 * nI i) + (1 : Int32) = nI (2 * i + 1) := k2 i 1
    have v0 : vp_in ((2 * nI i) + (0 : Int32)) 34 := by rw [ei0]; exact vp_in_nI (by omega) (by decide)
    have v1 : vp_in ((2 * nI i) + (1 : Int32)) 34 := by rw [ei1]; exact vp_in_nI (by omega) (by decide)
    have hf1 : frm [199] [24] I I1 := hf.tr (f1.m.w (by simp) (by simp))
    have step : ∀ b : Int32, b = bI (uO Rs (I 198) k i = true) → am_W am_all (am_run (d + 5)) e_Model_marks Q 12 [.ref 186, .int k, .int (nI i), .int (0 + 1)] [] (am_u I1 199 ((2 * nI i) + (0 : Int32)).toNatClampNeg b) L1 (gg Lx ρ) 0 0 := by
      intro b hb
      rw [ei0, nI_clamp (by omega), show (0 : Int32) + 1 = 1 by decide]
      have hf2 : frm [199] [24] I (am_u I1 199 (2 * i) b) := hf1.u (by simp) (by decide)
      have e198' : am_u I1 199 (2 * i) b 198 = I 198 := hf2.1 198 (by decide) (by simp)
      refine sy_Model_marks_12 (d := d + 4) _ _ _ (fun z => absurd (by decide) z) (fun _ => oR_n (c := 1) (by omega)) (fun _ => ?_)
      rw [show mR (am_u I1 199 (2 * i) b) (nI i) 1 = am_u I1 199 (2 * i) b 198 (7 + 5 * i + 1) from mR_n (c := 1) (by omega)]
      refine sp_Model_broken (by omega) hk0 (by rw [e198']; exact hl0) (by rw [e198']; exact hfo) hw (hf2.M (by simp) (by simp) hM) (fun I2 L2 f2 l2 => ?_)
      have hf3 : frm [199] [24] I I2 := hf2.tr (f2.m.w (by simp) (by simp))
      have fin : ∀ b2 : Int32, b2 = bI (vO Rs (I 198) k i = true) → am_W am_all (am_run (d + 5)) e_Model_marks Q 12 [.ref 186, .int k, .int (nI i), .int (1 + 1)] [] (am_u I2 199 ((2 * nI i) + (1 : Int32)).toNatClampNeg b2) L2 (gg Lx ρ) 0 0 := by
        intro b2 hb2
        rw [ei1, nI_clamp (by omega), show (1 : Int32) + 1 = 2 by decide]
        refine sy_Model_marks_12 (d := d + 4) _ _ _ (fun _ => ?_) (fun z => absurd z (by decide)) (fun z => absurd z (by decide))
        rw [nI_1]
        refine lp_marks hn hwf hk hk7 hfo hw hM h m (i + 1) _ L2 _ (by omega) (hf3.u (by simp) (by decide)) (fun a h1 h2 => (l2 a h1 h2).trans ((l1 a h1 h2).trans (hL a h1 h2))) (fun j hj => ?_)
        have e9 : I2 199 = am_u I1 199 (2 * i) b 199 := f2.c (by decide)
        have e9' : I1 199 = I' 199 := f1.c (by decide)
        by_cases z : j = i
        · subst z
          refine ⟨?_, ?_⟩
          · rw [am_u_nk (by omega), e9, am_u_at]; exact hb
          · rw [am_u_at]; exact hb2
        · rw [am_u_nk (by omega), am_u_nk (by omega), e9, am_u_nk (by omega), am_u_nk (by omega), e9']
          exact hv j (by omega)
      rw [e198'] 
      refine sy_Model_marks_39 (d := d + 4) _ _ _ _ _ (fun _ => v1) (fun c => fin 0 ?_) (fun _ => v1) (fun c => fin 1 ?_)
      · exact (bI_f (fun z => c (of_decide_eq_true z))).symm
      · exact (bI_t (decide_eq_true c)).symm
    rw [e198]
    refine sy_Model_marks_39 (d := d + 4) _ _ _ _ _ (fun _ => v0) (fun c => step 0 ?_) (fun _ => v0) (fun c => step 1 ?_)
    · exact (bI_f (fun z => c (of_decide_eq_true z))).symm
    · exact (bI_t (decide_eq_true c)).symm
theorem sp_Model_marks {I : am_I} {L : am_L} {n kk : Nat} {k : Int32} (hn : I 186 29 = nI n) (hwf : wfN (I 198) n) (hk : k = nI kk) (hk7 : kk ≤ 7) (hfo : foR Rs (I 198 6)) (hw : wfRs Rs) (hM : RCm I Rs)
    (h : ∀ I' L', frm [199] [24] I I' → (∀ a, a ≠ 196 → a ≠ 197 → L' a = L a) → (∀ j, j < n → I' 199 (2 * j) = bI (uO Rs (I 198) k j = true) ∧ I' 199 (2 * j + 1) = bI (vO Rs (I 198) k j = true)) → Q none I' L' (gg Lx ρ)) : am_run (d + 6) m_Model_marks [.ref 186, .int k] I L (gg Lx ρ) Q :=
  run_in rfl rfl ⟨rfl, rfl⟩ (sy_Model_marks_0 (d := d + 4) _ (lp_marks hn hwf hk hk7 hfo hw hM h n 0 I L _ (by omega) frm.rf (fun _ _ _ => rfl) (fun j hj => absurd hj (Nat.not_lt_zero j))))
end MWY
section MWY
variable {d Lx : Nat} {ρ : List (Nat × Nat)} {Q : am_Q} {Rs : List (List (Nat × List Nat))}
/-- what was marked -/
def mkd (I : am_I) (n : Nat) (u v : Nat → Bool) : Prop := ∀ j, j < n → I 199 (2 * j) = bI (u j = true) ∧ I 199 (2 * j + 1) = bI (v j = true)
theorem spr_half {I : am_I} {L : am_L} {j w A B c : Nat} {o fl : Bool} {D : Nat → Nat} {x1 : Int32} {x5 : Value} (hj : j < 17) (hw : w < 2) (hA : I 198 (7 + 5 * j + w) = nI A) (hB : I 198 (7 + 5 * j + (1 - w)) = nI B) (hc : I 198 (7 + 5 * j + 2) = nI c) (hA10 : A < 10) (hB10 : B < 10) (hc2 : c ≤ 2000) (ho : I 199 (2 * j + w) = bI (o = true)) (hD : ∀ p, p < 10 → I 200 p = nI (D p)) (hDB : ∀ p, D p ≤ 1000000)
    (h : ∀ I' x5, frm [200] [] I I' → (∀ p, p < 10 → I' 200 p = nI (relx A B c o D p)) → am_W am_all (am_run (d + 1)) e_Model_spreads Q 53 [.ref 186, .int x1, .int (bI ((fl || decide (o = true ∧ D B + c < D A)) = true)), .int (nI j), .int (nI (w + 1)), x5] [] I' L (gg Lx ρ) 0 0) :
    am_W am_all (am_run (d + 1)) e_Model_spreads Q 53 [.ref 186, .int x1, .int (bI (fl = true)), .int (nI j), .int (nI w), x5] [] I L (gg Lx ρ) 0 0 := by
  have c2 : nI w < 2 := nI_lt (b := 2) hw (by decide)
  have e1w : (1 : Int32) - nI w = nI (1 - w) := pk_sub (a := 1) (b := w) (by omega)
  have rA : mR I (nI j) (nI w) = nI A := (mR_n (by omega)).trans hA
  have rB : mR I (nI j) (1 - nI w) = nI B := by rw [e1w]; exact (mR_n (by omega)).trans hB
  have rC : mR I (nI j) 2 = nI c := (mR_n (c := 2) (by omega)).trans hc
  have cA : (nI A).toNatClampNeg = A := nI_clamp (by omega)
  have cB : (nI B).toNatClampNeg = B := nI_clamp (by omega)
  have e9 : I 199 (Int32.toNatClampNeg ((2 * nI j) + nI w)) = bI (o = true) := by rw [k2, nI_clamp (by omega)]; exact ho
  have es : I 200 (mR I (nI j) (1 - nI w)).toNatClampNeg + mR I (nI j) 2 = nI (D B + c) := by rw [rB, cB, rC, hD _ hB10, nI_add]
  have ea : I 200 (mR I (nI j) (nI w)).toNatClampNeg = nI (D A) := by rw [rA, cA, hD _ hA10]
  have d1 := hDB A
  have d2 := hDB B
  refine sy_Model_spreads_53 _ _ _ _ _ (fun z => absurd c2 z) (fun _ => by rw [e1w]; exact oR_n (by omega)) (fun _ => by rw [rB]; exact vp_in_nI hB10 (by decide)) (fun _ => oR_n (c := 2) (by omega)) (fun _ => by rw [k2]; exact vp_in_nI (by omega) (by decide)) (fun _ z => ?_) (fun _ _ => oR_n (by omega)) (fun _ _ => by rw [rA]; exact vp_in_nI hA10 (by decide)) (fun _ z z2 => ?_) (fun _ z z2 => ?_)
  · rw [e9] at z
    have hno : ¬ (o = true ∧ D B + c < D A) := fun y => bI0 z y.1
    rw [nI_1]
    have h := h I (.int (I 200 (mR I (nI j) (1 - nI w)).toNatClampNeg + mR I (nI j) 2)) frm.rf (by rw [relx_id hno]; exact hD)
    rw [decide_eq_false hno, Bool.or_false] at h
    exact h
  · rw [e9] at z
    rw [es, ea] at z2
    have hyes : o = true ∧ D B + c < D A := ⟨bI1 z, (nI_ltI (by omega) (by omega)).mp z2⟩
    rw [nI_1, es, rA, cA]
    have h := h (am_u I 200 A (nI (D B + c))) (.int (nI (D B + c))) (frm.rf.u (by simp) (by decide)) (mem_relx hD hyes)
    rw [decide_eq_true hyes, Bool.or_true, bI_t rfl] at h
    exact h
  · rw [es, ea] at z2
    have hno : ¬ (o = true ∧ D B + c < D A) := fun y => z2 (nI_lt y.2 (by omega))
    rw [nI_1]
    have h := h I (.int (I 200 (mR I (nI j) (1 - nI w)).toNatClampNeg + mR I (nI j) 2)) frm.rf (by rw [relx_id hno]; exact hD)
    rw [decide_eq_false hno, Bool.or_false] at h
    exact h
theorem lp_sprIn {I : am_I} {L : am_L} {n : Nat} {f : Nat → Int32} {u v : Nat → Bool} {D : Nat → Nat} {x1 : Int32} (hn : I 186 29 = nI n) (hf0 : I 198 = f) (hwf : wfN f n) (hmk : mkd I n u v) (hDB : ∀ p, D p ≤ 1000000)
    (h : ∀ I' x3 x4 x5, frm [200] [] I I' → (∀ p, p < 10 → I' 200 p = nI (gPass (rA f) (rB f) (rD f) u v n D p)) → am_W am_all (am_run (d + 1)) e_Model_spreads Q 34 [.ref 186, .int x1, .int (bI (gChg (rA f) (rB f) (rD f) u v n D = true)), x3, x4, x5] [] I' L (gg Lx ρ) 0 0) : ∀ m j I' (x4 x5 : Value), j + m = n → frm [200] [] I I' → (∀ p, p < 10 → I' 200 p = nI (gPass (rA f) (rB f) (rD f) u v j D p)) → am_W am_all (am_run (d + 1)) e_Model_spreads Q 42 [.ref 186, .int x1, .int (bI (gChg (rA f) (rB f) (rD f) u v j D = true)), .int (nI j), x4, x5] [] I' L (gg Lx ρ) 0 0
  | 0, j, I', x4, x5, e, hf, hv => by
    have e : j = n := e
    subst e
    have hno : ¬ nI j < I' 186 29 := by rw [hf.2 29 (by simp), hn]; exact nI_nlt (Nat.le_refl _) (by have := hwf.1; omega)
    exact sy_Model_spreads_42 _ _ _ _ _ (fun _ => h I' _ _ _ hf hv) (fun z => absurd z hno)
  | m + 1, j, I', x4, x5, e, hf, hv => by
    have hn17 := hwf.1
    have hj : j < n := by omega
    obtain ⟨w1, w2, w3, w4, w5, w6, w7, w8, w9, w10⟩ := hwf.2 j hj
    have e198 : ∀ J, frm [200] [] I J → J 198 = f := fun J hJ => (hJ.1 198 (by decide) (by simp)).trans hf0
    have e199 : ∀ J, frm [200] [] I J → J 199 = I 199 := fun J hJ => hJ.1 199 (by decide) (by simp)
    have hP : ∀ p, gPass (rA f) (rB f) (rD f) u v j D p ≤ 1000000 := fun p => Nat.le_trans (gPass_le j D p) (hDB p)
    refine sy_Model_spreads_42 _ _ _ _ _ (fun z => absurd (by rw [hf.2 29 (by simp), hn]; exact nI_lt hj (by omega)) z) (fun _ => ?_)
    refine spr_half (w := 0) (A := rA f j) (B := rB f j) (c := rD f j) (o := u j) (by omega) (by omega) (by rw [e198 I' hf]; exact w1) (by rw [e198 I' hf]; exact w3) (by rw [e198 I' hf]; exact w6) w2 w4 (by omega) (by rw [e199 I' hf]; exact (hmk j hj).1) hv hP (fun I2 y5 f2 v2 => ?_)
    have hf2 : frm [200] [] I I2 := hf.tr f2
    refine spr_half (w := 1) (A := rB f j) (B := rA f j) (c := rD f j) (o := v j) (by omega) (by omega) (by rw [e198 I2 hf2]; exact w3) (by rw [e198 I2 hf2]; exact w1) (by rw [e198 I2 hf2]; exact w6) w4 w2 (by omega) (by rw [e199 I2 hf2]; exact (hmk j hj).2) v2 (fun p => Nat.le_trans (relx_le _ _ _ _ _ _) (hP p)) (fun I3 z5 f3 v3 => ?_)
    refine sy_Model_spreads_53 _ _ _ _ _ (fun _ => ?_) (fun z => absurd z (by decide)) (fun z => absurd z (by decide)) (fun z => absurd z (by decide)) (fun z => absurd z (by decide)) (fun z => absurd z (by decide)) (fun z => absurd z (by decide)) (fun z => absurd z (by decide)) (fun z => absurd z (by decide)) (fun z => absurd z (by decide))
    rw [nI_1]
    exact lp_sprIn hn hf0 hwf hmk hDB h m (j + 1) I3 _ _ (by omega) (hf2.tr f3) v3
theorem lp_spr {I : am_I} {L : am_L} {n t : Nat} {f : Nat → Int32} {u v : Nat → Bool} {x1 : Int32} (hn : I 186 29 = nI n) (hf0 : I 198 = f) (hwf : wfN f n) (hmk : mkd I n u v) (ht : t < 10)
    (h : ∀ I', frm [200] [] I I' → (∀ p, p < 10 → I' 200 p = nI (dst (rA f) (rB f) (rD f) u v n t p)) → Q none I' L (gg Lx ρ)) : ∀ m k I' (fl : Bool) (x3 x4 x5 : Value), k + m = 10 → frm [200] [] I I' → (∀ p, p < 10 → I' 200 p = nI (gIt (rA f) (rB f) (rD f) u v n k (gInit t 1000000) p)) → (k = 10 → fl = false) → (fl = false → gIt (rA f) (rB f) (rD f) u v n k (gInit t 1000000) = dst (rA f) (rB f) (rD f) u v n t) → am_W am_all (am_run (d + 1)) e_Model_spreads Q 34 [.ref 186, .int x1, .int (bI (fl = true)), x3, x4, x5] [] I' L (gg Lx ρ) 0 0
  | 0, k, I', fl, x3, x4, x5, e, hf, hv, hk, hfl => by
    have hff := hk e
    subst hff
    exact sy_Model_spreads_34 _ _ _ _ _ (fun _ => h I' hf (fun p hp => by rw [hv p hp, hfl rfl])) (fun z => absurd (bI_f (by decide)) z)
  | m + 1, k, I', fl, x3, x4, x5, e, hf, hv, hk, hfl => by
    have ha : ∀ j, j < n → rA f j < 10 ∧ rB f j < 10 := fun j hj => ⟨(hwf.2 j hj).2.1, (hwf.2 j hj).2.2.2.1⟩
    have hc : ∀ j, j < n → 0 < rD f j := fun j hj => (hwf.2 j hj).2.2.2.2.2.2.1
    refine sy_Model_spreads_34 _ _ _ _ _ (fun z => ?_) (fun z => ?_)
    · have hff : fl = false := by cases fl with
        | false => rfl
        | true => exact absurd rfl (bI0 z)
      exact h I' hf (fun p hp => by rw [hv p hp, hfl hff])
    · refine lp_sprIn (D := gIt (rA f) (rB f) (rD f) u v n k (gInit t 1000000)) (I := I) hn hf0 hwf hmk (fun p => gIt_B k p) (fun I2 y3 y4 y5 hf2 hv2 => ?_) n 0 I' x4 x5 (by omega) hf hv
      have hid : ∀ (z : gChg (rA f) (rB f) (rD f) u v n (gIt (rA f) (rB f) (rD f) u v n k (gInit t 1000000)) = false), gPass (rA f) (rB f) (rD f) u v n (gIt (rA f) (rB f) (rD f) u v n k (gInit t 1000000)) = gIt (rA f) (rB f) (rD f) u v n k (gInit t 1000000) := fun z => gChg_f n _ z
      refine lp_spr hn hf0 hwf hmk ht h m (k + 1) I2 _ y3 y4 y5 (by omega) hf2 hv2 (fun hk10 => ?_) (fun hz => ?_)
      · have hk9 : k = 9 := by omega
        subst hk9
        cases ec : gChg (rA f) (rB f) (rD f) u v n (gIt (rA f) (rB f) (rD f) u v n 9 (gInit t 1000000)) with
        | false => rfl
        | true =>
          obtain ⟨y, hy⟩ := gChg_t n _ ec
          rw [gDst_fix ha hc ht] at hy
          exact absurd hy (Nat.lt_irrefl _)
      · show gPass (rA f) (rB f) (rD f) u v n (gIt (rA f) (rB f) (rD f) u v n k (gInit t 1000000)) = _
        rw [hid hz]
        exact gDst_eq ha hc ht (hid hz)
theorem lp_spr0 {I : am_I} {L : am_L} {t : Nat} {x3 x4 x5 : Value} (ht : t < 10) (h : ∀ I', frm [200] [] I I' → (∀ p, p < 10 → I' 200 p = nI (gInit t 1000000 p)) → am_W am_all (am_run (d + 1)) e_Model_spreads Q 34 [.ref 186, .int (nI t), .int 1, x3, x4, x5] [] I' L (gg Lx ρ) 0 0) : ∀ m i I', i + m = 10 → frm [200] [] I I' → (∀ p, p < i → I' 200 p = nI (gInit t 1000000 p)) → am_W am_all (am_run (d + 1)) e_Model_spreads Q 2 [.ref 186, .int (nI t), .int (nI i), x3, x4, x5] [] I' L (gg Lx ρ) 0 0
  | 0, i, I', e, hf, hv => by
    have e : i = 10 := e
    subst e
    exact sy_Model_spreads_2 _ _ _ _ _ (fun _ => h I' hf hv) (fun z => absurd z (by decide)) (fun z => absurd z (by decide)) (fun z => absurd z (by decide)) (fun z => absurd z (by decide))
  | m + 1, i, I', e, hf, hv => by
    have v10 : vp_in (nI i) 10 := vp_in_nI (by omega) (by decide)
    have hit : nI i = nI t ↔ i = t := nI_eq (by omega) (by omega)
    refine sy_Model_spreads_2 _ _ _ _ _ (fun z => absurd (nI_lt (b := 10) (by omega) (by decide)) z) (fun _ _ => v10) (fun _ z => ?_) (fun _ _ => v10) (fun _ z => ?_)
    · rw [nI_clamp (by omega), nI_1]
      refine lp_spr0 ht h m (i + 1) _ (by omega) (hf.u (by simp) (by decide)) (fun p hp => ?_)
      by_cases e2 : p = i
      · subst e2; rw [am_u_at]; unfold gInit; rw [if_neg (fun y => z (hit.mpr y))]; rfl
      · rw [am_u_nk e2]; exact hv p (by omega)
    · rw [nI_clamp (by omega), nI_1]
      refine lp_spr0 ht h m (i + 1) _ (by omega) (hf.u (by simp) (by decide)) (fun p hp => ?_)
      by_cases e2 : p = i
      · subst e2; rw [am_u_at]; unfold gInit; rw [if_pos (hit.mp z)]; rfl
      · rw [am_u_nk e2]; exact hv p (by omega)
theorem sp_Model_spreads {I : am_I} {L : am_L} {n t : Nat} {f : Nat → Int32} {u v : Nat → Bool} (hn : I 186 29 = nI n) (hf0 : I 198 = f) (hwf : wfN f n) (hmk : mkd I n u v) (ht : t < 10)
    (h : ∀ I', frm [200] [] I I' → (∀ p, p < 10 → I' 200 p = nI (dst (rA f) (rB f) (rD f) u v n t p)) → Q none I' L (gg Lx ρ)) : am_run (d + 2) m_Model_spreads [.ref 186, .int (nI t)] I L (gg Lx ρ) Q := by
  refine run_in rfl rfl ⟨rfl, rfl⟩ (sy_Model_spreads_0 _ (lp_spr0 ht (fun I1 f1 v1 => ?_) 10 0 I (by omega) frm.rf (fun p hp => absurd hp (Nat.not_lt_zero p))))
  exact lp_spr (I := I) hn hf0 hwf hmk ht h 10 0 I1 true _ _ _ (by omega) f1 v1 (fun z => absurd z (by decide)) (fun z => absurd z (by decide))
end MWY
section MWY
variable {d Lx : Nat} {ρ : List (Nat × Nat)} {Q : am_Q} {Rs : List (List (Nat × List Nat))}
theorem rf_half {I : am_I} {L : am_L} {j w p A B c : Nat} {o : Bool} {D : Nat → Nat} (hj : j < 17) (hw : w < 2) (hp : p < 10) (hA : I 198 (7 + 5 * j + w) = nI A) (hB : I 198 (7 + 5 * j + (1 - w)) = nI B) (hc : I 198 (7 + 5 * j + 2) = nI c) (hA10 : A < 10) (hB10 : B < 10) (hc2 : c ≤ 2000) (ho : I 199 (2 * j + w) = bI (o = true)) (hD : ∀ p, p < 10 → I 200 p = nI (D p)) (hDB : ∀ p, D p ≤ 1000000)
    (h1 : A = p ∧ o = true ∧ D B + c = D p → Q (some (.int (nI j))) I L (gg Lx ρ)) (h0 : ¬ (A = p ∧ o = true ∧ D B + c = D p) → am_W am_all (am_run (d + 1)) e_Model_roadFrom Q 12 [.ref 186, .int (nI p), .int (nI j), .int (nI (w + 1))] [] I L (gg Lx ρ) 0 0) :
    am_W am_all (am_run (d + 1)) e_Model_roadFrom Q 12 [.ref 186, .int (nI p), .int (nI j), .int (nI w)] [] I L (gg Lx ρ) 0 0 := by
  have c2 : nI w < 2 := nI_lt (b := 2) hw (by decide)
  have e1w : (1 : Int32) - nI w = nI (1 - w) := pk_sub (a := 1) (b := w) (by omega)
  have rA : mR I (nI j) (nI w) = nI A := (mR_n (by omega)).trans hA
  have rB : mR I (nI j) (1 - nI w) = nI B := by rw [e1w]; exact (mR_n (by omega)).trans hB
  have rC : mR I (nI j) 2 = nI c := (mR_n (c := 2) (by omega)).trans hc
  have hAp : nI A = nI p ↔ A = p := nI_eq (by omega) (by omega)
  have e9 : I 199 (Int32.toNatClampNeg ((2 * nI j) + nI w)) = bI (o = true) := by rw [k2, nI_clamp (by omega)]; exact ho
  have es : mR I (nI j) 2 + I 200 (mR I (nI j) (1 - nI w)).toNatClampNeg = nI (D B + c) := by rw [rB, nI_clamp (by omega), rC, hD _ hB10, nI_add, Nat.add_comm]
  have ep : I 200 (nI p).toNatClampNeg = nI (D p) := by rw [nI_clamp (by omega), hD _ hp]
  have d1 := hDB B
  have d2 := hDB p
  refine sy_Model_roadFrom_12 _ _ _ (fun z => absurd c2 z) (fun _ => oR_n (by omega)) (fun _ z => ?_) (fun _ _ => by rw [k2]; exact vp_in_nI (by omega) (by decide)) (fun _ _ z => ?_) (fun _ _ _ => oR_n (c := 2) (by omega)) (fun _ _ _ => by rw [e1w]; exact oR_n (by omega)) (fun _ _ _ => by rw [rB]; exact vp_in_nI hB10 (by decide)) (fun _ _ _ => vp_in_nI hp (by decide)) (fun _ _ _ z => ?_) (fun _ z z2 z3 => ?_)
  · rw [rA] at z
    rw [nI_1]; exact h0 (fun y => z (hAp.mpr y.1))
  · rw [e9] at z
    rw [nI_1]; exact h0 (fun y => bI0 z y.2.1)
  · rw [es, ep] at z
    rw [nI_1]; exact h0 (fun y => z (by rw [y.2.2]))
  · rw [rA] at z
    rw [e9] at z2
    rw [es, ep] at z3
    exact h1 ⟨hAp.mp z, bI1 z2, (nI_eq (by omega) (by omega)).mp z3⟩
theorem lp_rf {I : am_I} {L : am_L} {n p : Nat} {f : Nat → Int32} {u v : Nat → Bool} {D : Nat → Nat} (hn : I 186 29 = nI n) (hf1 : ∀ j, j < n → I 198 (7 + 5 * j) = f (7 + 5 * j) ∧ I 198 (7 + 5 * j + 1) = f (7 + 5 * j + 1) ∧ I 198 (7 + 5 * j + 2) = f (7 + 5 * j + 2)) (hwf : wfN f n) (hmk : mkd I n u v) (hD : ∀ q, q < 10 → I 200 q = nI (D q)) (hDB : ∀ q, D q ≤ 1000000) (hp : p < 10) : ∀ m j (x3 : Value), j + m = n → Q (some (.int (oI (fnd (okR (rA f) (rB f) (rD f) u v D p) m j)))) I L (gg Lx ρ) → am_W am_all (am_run (d + 1)) e_Model_roadFrom Q 2 [.ref 186, .int (nI p), .int (nI j), x3] [] I L (gg Lx ρ) 0 0
  | 0, j, x3, e, h => by
    have e : j = n := e
    subst e
    have hno : ¬ nI j < I 186 29 := by rw [hn]; exact nI_nlt (Nat.le_refl _) (by have := hwf.1; omega)
    exact sy_Model_roadFrom_2 _ _ _ (fun _ => h) (fun z => absurd z hno)
  | m + 1, j, x3, e, h => by
    have hn17 := hwf.1
    have hj : j < n := by omega
    obtain ⟨w1, w2, w3, w4, w5, w6, w7, w8, w9, w10⟩ := hwf.2 j hj
    obtain ⟨q1, q2, q3⟩ := hf1 j hj
    unfold fnd at h
    have take : okR (rA f) (rB f) (rD f) u v D p j = true → Q (some (.int (nI j))) I L (gg Lx ρ) := fun ok => by
      rw [if_pos ok] at h; exact h
    refine sy_Model_roadFrom_2 _ _ _ (fun z => absurd (by rw [hn]; exact nI_lt hj (by omega)) z) (fun _ => ?_)
    refine rf_half (w := 0) (A := rA f j) (B := rB f j) (c := rD f j) (o := u j) (by omega) (by omega) hp (q1.trans w1) (q2.trans w3) (q3.trans w6) w2 w4 (by omega) (hmk j hj).1 hD hDB (fun y => take (decide_eq_true (Or.inl y))) (fun n1 => ?_)
    refine rf_half (w := 1) (A := rB f j) (B := rA f j) (c := rD f j) (o := v j) (by omega) (by omega) hp (q2.trans w3) (q1.trans w1) (q3.trans w6) w4 w2 (by omega) (hmk j hj).2 hD hDB (fun y => take (decide_eq_true (Or.inr y))) (fun n2 => ?_)
    refine sy_Model_roadFrom_12 _ _ _ (fun _ => ?_) (fun z => absurd z (by decide)) (fun z => absurd z (by decide)) (fun z => absurd z (by decide)) (fun z => absurd z (by decide)) (fun z => absurd z (by decide)) (fun z => absurd z (by decide)) (fun z => absurd z (by decide)) (fun z => absurd z (by decide)) (fun z => absurd z (by decide)) (fun z => absurd z (by decide))
    rw [nI_1]
    refine lp_rf hn hf1 hwf hmk hD hDB hp m (j + 1) _ (by omega) ?_
    rw [if_neg (show ¬ okR (rA f) (rB f) (rD f) u v D p j = true from fun y => (of_decide_eq_true y).elim n1 n2)] at h
    exact h
theorem sp_Model_roadFrom {I : am_I} {L : am_L} {n p : Nat} {f : Nat → Int32} {u v : Nat → Bool} {D : Nat → Nat} (hn : I 186 29 = nI n) (hf1 : ∀ j, j < n → I 198 (7 + 5 * j) = f (7 + 5 * j) ∧ I 198 (7 + 5 * j + 1) = f (7 + 5 * j + 1) ∧ I 198 (7 + 5 * j + 2) = f (7 + 5 * j + 2)) (hwf : wfN f n) (hmk : mkd I n u v) (hD : ∀ q, q < 10 → I 200 q = nI (D q)) (hDB : ∀ q, D q ≤ 1000000) (hp : p < 10) (h : Q (some (.int (oI (fnd (okR (rA f) (rB f) (rD f) u v D p) n 0)))) I L (gg Lx ρ)) : am_run (d + 2) m_Model_roadFrom [.ref 186, .int (nI p)] I L (gg Lx ρ) Q :=
  run_in rfl rfl ⟨rfl, rfl⟩ (sy_Model_roadFrom_0 _ (lp_rf hn hf1 hwf hmk hD hDB hp n 0 _ (by omega) h))
theorem sp_Model_looks {I : am_I} {L : am_L} {n t kk : Nat} {k : Int32} (hn : I 198 1 = nI n) (hwf : wfN (I 198) n) (hk : k = nI kk) (hk7 : kk ≤ 7) (hfo : foR Rs (I 198 6)) (hw : wfRs Rs) (hM : RCm I Rs) (ht : t < 10)
    (h : ∀ I' L', frm [199, 200] [24, 29] I I' → (∀ a, a ≠ 196 → a ≠ 197 → L' a = L a) → I' 186 29 = nI n → mkd I' n (uO Rs (I 198) k) (vO Rs (I 198) k) → (∀ p, p < 10 → I' 200 p = nI (pD Rs (I 198) n k t p)) → Q none I' L' (gg Lx ρ)) : am_run (d + 7) m_Model_looks [.ref 186, .int k, .int (nI t)] I L (gg Lx ρ) Q := by
  have f0 : frm [199, 200] [24, 29] I (am_u I 186 29 (I 198 1)) := frm.rf.uf (by simp)
  have e198 : am_u I 186 29 (I 198 1) 198 = I 198 := am_u_ne (by decide)
  refine run_in rfl rfl ⟨rfl, rfl⟩ (sz_Model_looks_0 _ _ (sp_Model_marks (Rs := Rs) (n := n) (by rw [am_u_at]; exact hn) (by rw [e198]; exact hwf) hk hk7 (by rw [e198]; exact hfo) hw (f0.M (by simp) (by simp) hM) (fun I1 L1 f1 l1 m1 => sz_Model_looks_15 _ _ ?_)))
  rw [e198] at m1
  have f01 : frm [199, 200] [24, 29] I I1 := f0.tr (f1.w (by simp) (by simp))
  have n1 : I1 186 29 = nI n := by rw [f1.2 29 (by simp), am_u_at]; exact hn
  refine sp_Model_spreads n1 (f01.1 198 (by decide) (by simp)) hwf m1 ht (fun I2 f2 v2 => sz_Model_looks_20 _ _ ?_)
  refine h I2 L1 (f01.tr (f2.w (by simp) (by simp))) l1 ((f2.2 29 (by simp)).trans n1) (fun j hj => ?_) v2
  rw [f2.1 199 (by decide) (by simp)]; exact m1 j hj
theorem nI_B {x : Nat} (h : x ≤ 1000000) : nI x = 1000000 ↔ ¬ x < 1000000 := by
  rw [show (1000000 : Int32) = nI 1000000 from rfl, nI_eq (by omega) (by decide)]; omega
theorem mOth_ot {I : am_I} {n j p : Nat} {f : Nat → Int32} (hj : j < n) (hwf : wfN f n) (hp : p < 10) (h0 : I 198 (7 + 5 * j) = f (7 + 5 * j)) (h1 : I 198 (7 + 5 * j + 1) = f (7 + 5 * j + 1)) : mOth I (nI j) (nI p) = nI (otN (rA f) (rB f) j p) := by
  have hn := hwf.1
  obtain ⟨w1, w2, w3, w4, w5, _⟩ := hwf.2 j hj
  rw [mOth_n (by omega)]
  unfold oth otN
  rw [h0, h1, w1, w3]
  by_cases ha : rA f j = p
  · rw [if_pos ha, if_pos (by rw [ha])]
  · rw [if_neg ha, if_neg (fun z => ha ((nI_eq (by omega) (by omega)).mp z))]
theorem wfN_wy {f : Nat → Int32} {n : Nat} (hwf : wfN f n) : (∀ j, j < n → rA f j < 10 ∧ rB f j < 10 ∧ rA f j ≠ rB f j) ∧ (∀ j, j < n → 0 < rD f j) :=
  ⟨fun j hj => ⟨(hwf.2 j hj).2.1, (hwf.2 j hj).2.2.2.1, (hwf.2 j hj).2.2.2.2.1⟩, fun j hj => (hwf.2 j hj).2.2.2.2.2.2.1⟩
theorem lp_mway {I : am_I} {L : am_L} {n t k : Nat} {x1 x2 : Int32} {f : Nat → Int32} {u v : Nat → Bool} (hn : I 186 29 = nI n) (hf0 : I 198 = f) (hwf : wfN f n) (hmk : mkd I n u v) (hD : ∀ q, q < 10 → I 200 q = nI (dst (rA f) (rB f) (rD f) u v n t q)) (ht : t < 10) (hk : k < 2 ^ 31) : ∀ m i p (x7 : Value), i + m = 10 → p < 10 → i ≤ k → dst (rA f) (rB f) (rD f) u v n t p < 1000000 → gNear (dst (rA f) (rB f) (rD f) u v n t) p 10 < m → Q (some (.int (wI ((wy (rA f) (rB f) (rD f) u v (dst (rA f) (rB f) (rD f) u v n t) n t m p)[k - i]?)))) I L (gg Lx ρ) → am_W am_all (am_run (d + 3)) e_Model_way Q 44 [.ref 186, .int x1, .int x2, .int (nI t), .int (nI k), .int (nI p), .int (nI i), x7] [] I L (gg Lx ρ) 0 0
  | 0, i, p, x7, e, hp, hik, hB, hN, h => absurd hN (Nat.not_lt_zero _)
  | m + 1, i, p, x7, e, hp, hik, hB, hN, h => by
    have hpt : nI p = nI t ↔ p = t := nI_eq (by omega) (by omega)
    unfold wy at h
    refine sy_Model_way_44 (d := d + 1) _ _ _ _ _ _ _ (fun z => ?_) (fun z => ?_)
    · rw [if_pos (hpt.mp z)] at h; exact h
    · have hne : p ≠ t := fun y => z (hpt.mpr y)
      rw [if_neg hne] at h
      obtain ⟨g1, g2⟩ := wfN_wy hwf
      obtain ⟨j, e1, hj, e2, e3, e4⟩ := wy_step (u := u) (v := v) g1 g2 ht hne hB
      rw [e1] at h
      refine sp_Model_roadFrom hn (fun j _ => by rw [hf0]; exact ⟨rfl, rfl, rfl⟩) hwf hmk hD (fun q => dst_B q) hp ?_
      rw [e1]
      have hn17 := hwf.1
      refine sy_Model_way_56 (d := d + 1) _ _ _ _ _ _ _ _ (fun _ => oR_n (c := 0) (by omega)) (fun _ => oR_n (c := 1) (by omega)) (fun z2 => ?_) (fun z2 => ?_)
      · show am_W am_all (am_run (d + 3)) e_Model_way Q 44 [.ref 186, .int x1, .int x2, .int (nI t), .int (nI k), .int (mOth I (nI j) (nI p)), .int (nI i + 1), .int (nI j)] [] I L (gg Lx ρ) 0 0
        rw [mOth_ot hj hwf hp (by rw [hf0]) (by rw [hf0]), nI_1]
        have hik2 : ¬ i = k := fun y => z2 (by rw [y])
        have := gNear_lt e4 10 e3
        refine lp_mway hn hf0 hwf hmk hD ht hk m (i + 1) _ _ (by omega) e3 (by omega) (by omega) (by omega) ?_
        rw [show k - i = (k - (i + 1)) + 1 by omega, List.getElem?_cons_succ] at h
        exact h
      · have hik2 : i = k := (nI_eq (by omega) hk).mp z2
        rw [show k - i = 0 by omega, List.getElem?_cons_zero] at h
        exact h
theorem sp_Model_drives {I : am_I} {L : am_L} {j kk : Nat} {p k : Int32} (hj : j < 17) (hk : k = nI kk) (hk1 : 1 ≤ kk) (hk7 : kk ≤ 7) (hfo : foR Rs (I 198 6)) (hw : wfRs Rs) (hM : RCm I Rs)
    (h : ∀ I' L', frm [198] [24] I I' → (∀ a, a ≠ 196 → a ≠ 197 → L' a = L a) → I' 198 = nt (I 198) j k → Q none I' L' (gg Lx ρ)) : am_run (d + 5) m_Model_drives [.ref 186, .int (nI j), .int p, .int k, .int 0] I L (gg Lx ρ) Q := by
  refine run_in rfl rfl ⟨rfl, rfl⟩ (sz_Model_drives_0 _ _ _ _ (sp_Model_lastBehind hj (by rw [hk]; exact nI_pos (by omega)) hfo hw hM (fun I1 L1 f1 l1 => ?_)))
  have ek : pLst Rs (I 198) j p k 0 = k := by unfold pLst; rw [if_neg (by rw [hk]; exact nI_ne0 (by omega) (by omega))]
  rw [ek]
  have e3 : ((7 + (5 * nI j)) + (3 : Int32)) = nI (7 + 5 * j + 3) := by rw [show (7 : Int32) = nI 7 from rfl, show (5 : Int32) = nI 5 from rfl, show (3 : Int32) = nI 3 from rfl, pk_mul, nI_add, nI_add]
  have e4 : ((7 + (5 * nI j)) + (4 : Int32)) = nI (7 + 5 * j + 4) := by rw [show (7 : Int32) = nI 7 from rfl, show (5 : Int32) = nI 5 from rfl, show (4 : Int32) = nI 4 from rfl, pk_mul, nI_add, nI_add]
  refine sz_Model_drives_9 _ _ _ _ _ _ (by rw [e3]; exact vp_in_nI (by omega) (by decide)) (by rw [e4]; exact vp_in_nI (by omega) (by decide)) ?_
  rw [e3, e4, nI_clamp (by omega), nI_clamp (by omega)]
  refine h _ L1 ((((f1.m.w (by simp) (by simp)).u (by simp) (by decide)).u (by simp) (by decide)).u (by simp) (by decide)) l1 (funext fun i => ?_)
  have e198 : I1 198 = I 198 := f1.c (by decide)
  unfold nt
  by_cases z3 : i = 7 + 5 * j + 3
  · subst z3; rw [if_pos rfl, am_u_nk (by omega), am_u_nk (by omega), am_u_at]
  · rw [if_neg z3]
    by_cases z4 : i = 7 + 5 * j + 4
    · subst z4; rw [if_pos rfl, am_u_nk (by omega), am_u_at, am_u_nk (by omega), e198]
    · rw [if_neg z4]
      by_cases z5 : i = 4
      · subst z5; rw [if_pos rfl, am_u_at, am_u_nk (by omega), am_u_nk (by omega), e198]
      · rw [if_neg z5, am_u_nk z5, am_u_nk z4, am_u_nk z3, e198]
theorem lp_mgoes {I : am_I} {L : am_L} {n t kk : Nat} {x2 x4 k : Int32} {f0 : Nat → Int32} {u v : Nat → Bool} (hn : I 186 29 = nI n) (hwf0 : wfN f0 n) (hmk : mkd I n u v) (hD : ∀ q, q < 10 → I 200 q = nI (dst (rA f0) (rB f0) (rD f0) u v n t q)) (ht : t < 10) (hk : k = nI kk) (hk1 : 1 ≤ kk) (hk7 : kk ≤ 7) (hfo : foR Rs (f0 6)) (hw : wfRs Rs) (hM : RCm I Rs) : ∀ m p (I' : am_I) (L' : am_L) (f : Nat → Int32) (x6 x7 : Value), p < 10 → frm [198] [24] I I' → (∀ a, a ≠ 196 → a ≠ 197 → L' a = L a) → I' 198 = f → wfN f n → (∀ i, f (7 + 5 * i) = f0 (7 + 5 * i) ∧ f (7 + 5 * i + 1) = f0 (7 + 5 * i + 1) ∧ f (7 + 5 * i + 2) = f0 (7 + 5 * i + 2)) → f 6 = f0 6 → dst (rA f0) (rB f0) (rD f0) u v n t p < 1000000 → gNear (dst (rA f0) (rB f0) (rD f0) u v n t) p 10 < m → (∀ I2 L2, frm [198] [24] I I2 → (∀ a, a ≠ 196 → a ≠ 197 → L2 a = L a) → I2 198 = nts k f (wy (rA f0) (rB f0) (rD f0) u v (dst (rA f0) (rB f0) (rD f0) u v n t) n t m p) → Q (some (.int x4)) I2 L2 (gg Lx ρ)) → am_W am_all (am_run (d + 5)) e_Model_goes Q 32 [.ref 186, .int k, .int x2, .int (nI t), .int x4, .int (nI p), x6, x7] [] I' L' (gg Lx ρ) 0 0
  | 0, p, I', L', f, x6, x7, hp, hf, hL, h198, hwf, h3, h6, hB, hN, h => absurd hN (Nat.not_lt_zero _)
  | m + 1, p, I', L', f, x6, x7, hp, hf, hL, h198, hwf, h3, h6, hB, hN, h => by
    have hpt : nI p = nI t ↔ p = t := nI_eq (by omega) (by omega)
    unfold wy at h
    refine sy_Model_goes_32 (d := d + 3) _ _ _ _ _ _ _ (fun z => ?_) (fun z => ?_)
    · rw [if_pos (hpt.mp z)] at h; exact h I' L' hf hL h198
    · have hne : p ≠ t := fun y => z (hpt.mpr y)
      rw [if_neg hne] at h
      obtain ⟨g1, g2⟩ := wfN_wy hwf0
      obtain ⟨j, e1, hj, e2, e3, e4⟩ := wy_step (u := u) (v := v) g1 g2 ht hne hB
      rw [e1] at h
      have hn17 := hwf0.1
      refine sp_Model_roadFrom (f := f0) ((hf.2 29 (by simp)).trans hn) (fun j _ => by rw [h198]; exact h3 j) hwf0 (fun j hj => by rw [hf.1 199 (by decide) (by simp)]; exact hmk j hj) (fun q hq => by rw [hf.1 200 (by decide) (by simp)]; exact hD q hq) (fun q => dst_B q) hp ?_
      rw [e1]
      refine sy_Model_goes_44 (d := d + 3) _ _ _ _ _ _ _ _ (oR_n (c := 0) (by omega)) (oR_n (c := 1) (by omega)) ?_
      show am_run (d + 5) m_Model_drives [.ref 186, .int (nI j), .int (nI p), .int k, .int 0] I' L' (gg Lx ρ) (fun r I2 L2 G2 => am_W am_all (am_run (d + 5)) e_Model_goes Q 66 [.ref 186, .int k, .int x2, .int (nI t), .int x4, .int (nI p), .int (nI j), .int (mOth I' (nI j) (nI p))] (r.toList ++ ([] : List Value)) I2 L2 G2 0 0)
      rw [mOth_ot (f := f0) hj hwf0 hp (by rw [h198]; exact (h3 j).1) (by rw [h198]; exact (h3 j).2.1)]
      refine sp_Model_drives (by omega) hk hk1 hk7 (by rw [h198, h6]; exact hfo) hw (hf.M (by simp) (by simp) hM) (fun I2 L2 f2 l2 e198 => ?_)
      refine sy_Model_goes_66 (d := d + 3) _ _ _ _ _ _ _ ?_
      have := gNear_lt e4 10 e3
      rw [h198] at e198
      exact lp_mgoes hn hwf0 hmk hD ht hk hk1 hk7 hfo hw hM m _ I2 L2 (nt f j k) _ _ e3 (hf.tr f2) (fun a h1 h2 => (l2 a h1 h2).trans (hL a h1 h2)) e198 (wfN_nt hwf hk hk7) (fun i => by
        rw [nt_o (i := 7 + 5 * i) (by omega) (by omega) (by omega), nt_o (i := 7 + 5 * i + 1) (by omega) (by omega) (by omega), nt_o (i := 7 + 5 * i + 2) (by omega) (by omega) (by omega)]; exact h3 i) ((nt_o (by omega) (by omega) (by omega)).trans h6) (by omega) (by omega) h
theorem sp_Model_goes {I : am_I} {L : am_L} {n t p kk : Nat} {k : Int32} (hn : I 198 1 = nI n) (hwf : wfN (I 198) n) (hk : k = nI kk) (hk1 : 1 ≤ kk) (hk7 : kk ≤ 7) (hfo : foR Rs (I 198 6)) (hw : wfRs Rs) (hM : RCm I Rs) (ht : t < 10) (hp : p < 10)
    (h1 : pD Rs (I 198) n k t p < 1000000 → ∀ I' L', frm [198, 199, 200] [24, 29] I I' → (∀ a, a ≠ 196 → a ≠ 197 → L' a = L a) → I' 198 = pG Rs (I 198) n k t p → Q (some (.int (nI (pD Rs (I 198) n k t p)))) I' L' (gg Lx ρ))
    (h0 : ¬ pD Rs (I 198) n k t p < 1000000 → ∀ I' L', frm [199, 200] [24, 29] I I' → (∀ a, a ≠ 196 → a ≠ 197 → L' a = L a) → Q (some (.int (-2))) I' L' (gg Lx ρ)) : am_run (d + 8) m_Model_goes [.ref 186, .int k, .int (nI p), .int (nI t)] I L (gg Lx ρ) Q := by
  refine run_in rfl rfl ⟨rfl, rfl⟩ (sy_Model_goes_0 (d := d + 5) _ _ _ (sp_Model_looks hn hwf hk hk7 hfo hw hM ht (fun I1 L1 f1 l1 n1 m1 v1 => ?_)))
  have e198 : I1 198 = I 198 := f1.1 198 (by decide) (by simp)
  have hb := dst_B (a := rA (I 198)) (b := rB (I 198)) (c := rD (I 198)) (u := uO Rs (I 198) k) (v := vO Rs (I 198) k) (n := n) (t := t) p
  have ev : I1 200 (nI p).toNatClampNeg = nI (pD Rs (I 198) n k t p) := by rw [nI_clamp (by omega)]; exact v1 p hp
  refine sy_Model_goes_6 (d := d + 5) _ _ _ _ _ _ _ (vp_in_nI hp (by decide)) (fun z => ?_) (fun z => ?_)
  · rw [ev] at z ⊢
    have hlt : pD Rs (I 198) n k t p < 1000000 := Classical.byContradiction fun y => z ((nI_B hb).mpr y)
    refine lp_mgoes (d := d + 2) (Rs := Rs) (f0 := I 198) n1 hwf m1 v1 ht hk hk1 hk7 hfo hw (f1.M (by simp) (by simp) hM) 10 p I1 L1 (I 198) _ _ hp frm.rf (fun _ _ _ => rfl) e198 hwf (fun _ => ⟨rfl, rfl, rfl⟩) rfl hlt (by have := gNear_9 (D := dst (rA (I 198)) (rB (I 198)) (rD (I 198)) (uO Rs (I 198) k) (vO Rs (I 198) k) n t) (p := p) 10 hp; omega) (fun I2 L2 f2 l2 e2 => h1 hlt I2 L2 ((f1.w (by simp) (by simp)).tr (f2.w (by simp) (by simp))) (fun a h1 h2 => (l2 a h1 h2).trans (l1 a h1 h2)) e2)
  · rw [ev] at z
    exact h0 ((nI_B hb).mp z) I1 L1 f1 l1
end MWY
