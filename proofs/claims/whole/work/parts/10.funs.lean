/-! TenCoins$Beliefs.has.(I)Z -/
def f_X0_has (v1 : Int32) (C : Mem) : Bool :=
  (if v1 < 0 then false else (if (C 18 3) ≤ v1 then false else true))
/-! TenCoins$Beliefs.add.(I)I -/
def f_X0_add (v1 : Int32) (C : Mem) : Option (Int32 × Mem) :=
  (if (C 18 3) < 8 then gd (inb (C 18 3) 8) (sto C 19 (C 18 3).toNatClampNeg v1 (fun C_21 => sto C_21 18 3 ((C_21 18 3) + 1) (fun C_29 => some (((C_29 18 3) - 1), C_29)))) else some ((-4), C))
/-! TenCoins$Beliefs.said.(II)I -/
def f_X0_said (v1 : Int32) (v2 : Int32) (C : Mem) : Option Int32 :=
  gd (inb ((v1 * 11) + v2) 88) (some (C 20 ((v1 * 11) + v2).toNatClampNeg))
/-! TenCoins$Beliefs.change.(III)I -/
def f_X0_change (v1 : Int32) (v2 : Int32) (v3 : Int32) (C : Mem) : Option (Int32 × Mem) :=
  Option.bind (f_X0_said v1 v2 C) (fun r_3 => gd (inb ((v1 * 11) + v2) 88) (sto C 20 ((v1 * 11) + v2).toNatClampNeg v3 (fun C_19 => some (r_3, C_19))))
/-! TenCoins.firstGreatest.([I)I -/
def B_X11_firstGreatest_21 (v1 : Int32) (v2 : Int32) (kb : Int32 → Int32 → Option Int32) : Option Int32 :=
  lt_ (v2 + 1) (fun v2_21 => kb v1 v2_21)
def L_X11_firstGreatest_4 (k : Nat) (n : Nat) (C : Mem) (kx : Int32 → Option Int32) : Nat → Int32 → Int32 → Option Int32
  | 0, _, _ => none
  | n_ + 1, v1, v2 =>
    (if (nI n) ≤ v2 then kx v1 else gd (inb v2 n) (gd (inb v1 n) ((if (C k v2.toNatClampNeg) ≤ (C k v1.toNatClampNeg) then (B_X11_firstGreatest_21 v1 v2 (L_X11_firstGreatest_4 k n C kx n_)) else (B_X11_firstGreatest_21 v2 v2 (L_X11_firstGreatest_4 k n C kx n_))))))
def f_X11_firstGreatest (k : Nat) (n : Nat) (C : Mem) : Option Int32 :=
  (L_X11_firstGreatest_4 k n C (fun (v1_27 : Int32) => some v1_27) FU 0 1)
/-! TenCoins$Beliefs.bestOffer.(I)I -/
def L_X0_bestOffer_2 (v1 : Int32) (kx : Mem → Option (Int32 × Mem)) : Nat → Int32 → Mem → Option (Int32 × Mem)
  | 0, _, _ => none
  | n_ + 1, v2, C =>
    (if 11 ≤ v2 then kx C else Option.bind (f_X0_said v1 v2 C) (fun r_20 => gd (inb v2 11) (sto C 21 v2.toNatClampNeg ((10 - v2) * r_20) (fun C_24 => lt_ (v2 + 1) (fun v2_25 => L_X0_bestOffer_2 v1 kx n_ v2_25 C_24)))))
def f_X0_bestOffer (v1 : Int32) (C : Mem) : Option (Int32 × Mem) :=
  (L_X0_bestOffer_2 v1 (fun (C_31 : Mem) => Option.bind (f_X11_firstGreatest 21 11 C_31) (fun r_35 => some (r_35, C_31))) FU 0 C)
/-! java/util/Arrays.fill.([II)V -/
def L_J7_fill_53178_5 (k : Nat) (n : Nat) (v1 : Int32) (v3 : Int32) (kx : Mem → Option Mem) : Nat → Int32 → Mem → Option Mem
  | 0, _, _ => none
  | n_ + 1, v2, C =>
    (if v3 ≤ v2 then kx C else gd (inb v2 n) (sto C k v2.toNatClampNeg v1 (fun C_13 => lt_ (v2 + 1) (fun v2_14 => L_J7_fill_53178_5 k n v1 v3 kx n_ v2_14 C_13))))
def f_J7_fill_53178 (k : Nat) (n : Nat) (v1 : Int32) (C : Mem) : Option Mem :=
  lt_ (nI n) (fun v3_4 => (L_J7_fill_53178_5 k n v1 v3_4 (fun (C_20 : Mem) => some C_20) FU 0 C))
/-! TenCoins$Choices.clear.()V -/
def f_X1_clear (C : Mem) : Option Mem :=
  Option.bind (f_J7_fill_53178 31 568 0 C) (fun C_5 => gd (inb 0 568) (sto C_5 31 (0 : Int32).toNatClampNeg 1 (fun C_14 => sto C_14 30 1 0 (fun C_17 => sto C_17 30 2 0 (fun C_22 => some C_22)))))
/-! TenCoins$Choices.poolOne.(I)V -/
def L_X1_poolOne_9 (v1 : Int32) (v2 : Int32) (kx : Mem → Option Mem) : Nat → Int32 → Mem → Option Mem
  | 0, _, _ => none
  | n_ + 1, v3, C =>
    (if 71 ≤ v3 then kx C else gd (inb ((v2 * 71) + v3) 568) (gd (inb ((((v2 - 1) * 71) + v3) - v1) 568) (gd (inb ((v2 * 71) + v3) 568) (sto C 31 ((v2 * 71) + v3).toNatClampNeg ((C 31 ((v2 * 71) + v3).toNatClampNeg) + (C 31 ((((v2 - 1) * 71) + v3) - v1).toNatClampNeg)) (fun C_43 => lt_ (v3 + 1) (fun v3_44 => L_X1_poolOne_9 v1 v2 kx n_ v3_44 C_43))))))
def L_X1_poolOne_3 (v1 : Int32) (kx : Mem → Option Mem) : Nat → Int32 → Mem → Option Mem
  | 0, _, _ => none
  | n_ + 1, v2, C =>
    (if v2 ≤ 0 then kx C else (L_X1_poolOne_9 v1 v2 (fun (C_50 : Mem) => lt_ (v2 + (-1)) (fun v2_50 => L_X1_poolOne_3 v1 kx n_ v2_50 C_50)) FU v1 C))
def f_X1_poolOne (v1 : Int32) (C : Mem) : Option Mem :=
  (L_X1_poolOne_3 v1 (fun (C_56 : Mem) => sto C_56 30 1 ((C_56 30 1) + 1) (fun C_63 => sto C_63 30 2 ((C_63 30 2) + v1) (fun C_73 => some C_73))) FU 7 C)
/-! TenCoins$Choices.pool.(LTenCoins$Tally;)V -/
def L_X1_pool_10 (t : Nat) (v2 : Int32) (kx : Mem → Option Mem) : Nat → Int32 → Mem → Option Mem
  | 0, _, _ => none
  | n_ + 1, v3, C =>
    gd (inb v2 11) ((if (C (t + 1) v2.toNatClampNeg) ≤ v3 then kx C else Option.bind (f_X1_poolOne v2 C) (fun C_22 => lt_ (v3 + 1) (fun v3_25 => L_X1_pool_10 t v2 kx n_ v3_25 C_22))))
def L_X1_pool_2 (t : Nat) (kx : Mem → Option Mem) : Nat → Int32 → Mem → Option Mem
  | 0, _, _ => none
  | n_ + 1, v2, C =>
    (if 11 ≤ v2 then kx C else (L_X1_pool_10 t v2 (fun (C_31 : Mem) => lt_ (v2 + 1) (fun v2_31 => L_X1_pool_2 t kx n_ v2_31 C_31)) FU 0 C))
def f_X1_pool (t : Nat) (C : Mem) : Option Mem :=
  (L_X1_pool_2 t (fun (C_37 : Mem) => some C_37) FU 0 C)
/-! TenCoins$Choices.apart.(II)I -/
def f_X1_apart (v1 : Int32) (v2 : Int32) (C : Mem) : Int32 :=
  (jabs ((v2 * (C 30 1)) - ((C 30 2) * v1)))
/-! TenCoins.millionths.(II)I -/
def f_X11_millionths (v0 : Int32) (v1 : Int32) : Option Int32 :=
  (if v1 = 0 then some 0 else gd (decide (¬ (v1.toInt64) = 0)) (some (((1000000 * (v0.toInt64)) / (v1.toInt64)).toInt32)))
/-! TenCoins$Choices.asFarApart.(LTenCoins$Tally;)I -/
def B_X1_asFarApart_83 (x0 : Int32) (x1 : Int32) (v3 : Int32) (v5 : Int32) (kb : Int32 → Int32 → Int32 → Option Int32) : Option Int32 :=
  lt_ (x0 + x1) (fun v4_84 => lt_ (v5 + 1) (fun v5_86 => kb v3 v4_84 v5_86))
def L_X1_asFarApart_32 (t : Nat) (v2 : Int32) (C : Mem) (kx : Int32 → Int32 → Option Int32) : Nat → Int32 → Int32 → Int32 → Option Int32
  | 0, _, _, _ => none
  | n_ + 1, v3, v4, v5 =>
    (if 71 ≤ v5 then kx v3 v4 else gd (inb (((C t 2) * 71) + v5) 568) (lt_ (C 31 (((C t 2) * 71) + v5).toNatClampNeg) (fun v6_54 => lt_ (v3 + v6_54) (fun v3_60 => (if (f_X1_apart (C t 2) v5 C) < v2 then (B_X1_asFarApart_83 v4 0 v3_60 v5 (L_X1_asFarApart_32 t v2 C kx n_)) else (B_X1_asFarApart_83 v4 v6_54 v3_60 v5 (L_X1_asFarApart_32 t v2 C kx n_)))))))
def f_X1_asFarApart (t : Nat) (C : Mem) : Option Int32 :=
  (if (C t 2) ≤ 7 then lt_ (f_X1_apart (C t 2) (C t 4) C) (fun v2_23 => (L_X1_asFarApart_32 t v2_23 C (fun (v3_92 : Int32) (v4_92 : Int32) => Option.bind (f_X11_millionths v4_92 v3_92) (fun r_95 => some r_95)) FU 0 0 0)) else some 0)
/-! TenCoins$Game.playerOf.(I)I -/
def f_X2_playerOf (v0 : Int32) : Int32 :=
  (if v0 = 97 then 1 else (if v0 = 103 then 0 else (if v0 = 116 then 2 else (-1))))
/-! TenCoins$Game.isFigure.(I)Z -/
def f_X2_isFigure (v0 : Int32) : Bool :=
  (if v0 < 48 then false else (if 57 < v0 then false else true))
/-! TenCoins$Game.startNode.(I)V -/
def B_X2_startNode_72 (C : Mem) : Option Mem :=
  sto C 22 11 ((C 22 11) + 1) (fun C_79 => some C_79)
def f_X2_startNode (v1 : Int32) (C : Mem) : Option Mem :=
  gd (inb (C 22 11) 60) (sto C 23 (C 22 11).toNatClampNeg v1 (fun C_9 => gd (inb (C_9 22 11) 60) (sto C_9 24 (C_9 22 11).toNatClampNeg (C_9 22 10) (fun C_22 => gd (inb (C_22 22 11) 60) (sto C_22 26 (C_22 22 11).toNatClampNeg 0 (fun C_32 => (if (C_32 22 10) = (-1) then (B_X2_startNode_72 C_32) else gd (inb (C_32 22 10) 60) (gd (inb (C_32 22 11) 60) (sto C_32 25 (C_32 22 11).toNatClampNeg (C_32 26 (C_32 22 10).toNatClampNeg) (fun C_58 => gd (inb (C_58 22 10) 60) (gd (inb (C_58 22 10) 60) (sto C_58 26 (C_58 22 10).toNatClampNeg ((C_58 26 (C_58 22 10).toNatClampNeg) + 1) (fun C_71 => (B_X2_startNode_72 C_71))))))))))))))
/-! TenCoins$Game.isNextFigure.(III)Z -/
def f_X2_isNextFigure (v1 : Int32) (v2 : Int32) (v3 : Int32) (C : Mem) : Option (Bool × Mem) :=
  (if (f_X2_isFigure v1) = true then gd (inb ((((C 22 11) - 1) * 3) + v2) 180) (sto C 27 ((((C 22 11) - 1) * 3) + v2).toNatClampNeg (v1 - 48) (fun C_27 => sto C_27 22 9 v3 (fun C_30 => some (true, C_30)))) else some (false, C))
/-! TenCoins$Game.beginsNode.(I)Z -/
def B_X2_beginsNode_19 (v1 : Int32) (v2 : Int32) (C : Mem) : Option (Bool × Mem) :=
  Option.bind (f_X2_startNode v2 C) (fun C_21 => (if v2 = (-1) then sto C_21 22 12 ((C_21 22 12) + 1) (fun C_36 => bnd2 (f_X2_isNextFigure v1 0 2 C_36) (fun r_43 C_43 => some (r_43, C_43))) else sto C_21 22 9 1 (fun C_49 => some (true, C_49))))
def f_X2_beginsNode (v1 : Int32) (C : Mem) : Option (Bool × Mem) :=
  lt_ (f_X2_playerOf v1) (fun v2_4 => (if v2_4 = (-1) then (if (f_X2_isFigure v1) = true then (B_X2_beginsNode_19 v1 v2_4 C) else some (false, C)) else (B_X2_beginsNode_19 v1 v2_4 C)))
/-! TenCoins$Game.opens.(I)Z -/
def f_X2_opens (v1 : Int32) (C : Mem) : Option (Bool × Mem) :=
  (if v1 = 40 then sto C 22 10 ((C 22 11) - 1) (fun C_15 => sto C_15 22 9 0 (fun C_20 => some (true, C_20))) else some (false, C))
/-! TenCoins$Game.followsNode.(I)Z -/
def B_X2_followsNode_36 (v1 : Int32) (C : Mem) : Option (Bool × Mem) :=
  (if v1 = 41 then gd (inb (C 22 10) 60) (sto C 22 10 (C 24 (C 22 10).toNatClampNeg) (fun C_52 => some (true, C_52))) else some (false, C))
def f_X2_followsNode (v1 : Int32) (C : Mem) : Option (Bool × Mem) :=
  (if (C 22 10) = (-1) then some (false, C) else (if v1 = 44 then gd (inb (C 22 10) 60) ((if 4 ≤ (C 26 (C 22 10).toNatClampNeg) then (B_X2_followsNode_36 v1 C) else sto C 22 9 0 (fun C_31 => some (true, C_31)))) else (B_X2_followsNode_36 v1 C)))
/-! TenCoins$Game.goesOn.(I)Z -/
def f_X2_goesOn (v1 : Int32) (C : Mem) : Option (Bool × Mem) :=
  (if (C 22 9) = 0 then bnd2 (f_X2_beginsNode v1 C) (fun r_38 C_38 => some (r_38, C_38)) else (if (C 22 9) = 1 then bnd2 (f_X2_opens v1 C) (fun r_44 C_44 => some (r_44, C_44)) else (if (C 22 9) = 2 then bnd2 (f_X2_isNextFigure v1 1 3 C) (fun r_52 C_52 => some (r_52, C_52)) else (if (C 22 9) = 3 then bnd2 (f_X2_isNextFigure v1 2 4 C) (fun r_60 C_60 => some (r_60, C_60)) else bnd2 (f_X2_followsNode v1 C) (fun r_66 C_66 => some (r_66, C_66))))))
/-! TenCoins$Game.add.(I)I -/
def B_X2_add_36 (C : Mem) : Option (Int32 × Mem) :=
  sto C 22 7 ((C 22 7) + 1) (fun C_43 => some ((C_43 22 7), C_43))
def f_X2_add (v1 : Int32) (C : Mem) : Option (Int32 × Mem) :=
  (if (C 22 7) < 60 then (if (C 22 8) = (-1) then bnd2 (f_X2_goesOn v1 C) (fun r_22 C_22 => (if r_22 = true then (B_X2_add_36 C_22) else sto C_22 22 8 (C_22 22 7) (fun C_33 => (B_X2_add_36 C_33)))) else (B_X2_add_36 C)) else some ((-4), C))
/-! TenCoins$Game.clear.()I -/
def f_X2_clear (C : Mem) : Option (Int32 × Mem) :=
  lt_ (C 22 7) (fun v1_4 => sto C 22 7 0 (fun C_7 => sto C_7 22 8 (-1) (fun C_12 => sto C_12 22 9 0 (fun C_17 => sto C_17 22 10 (-1) (fun C_22 => sto C_22 22 11 0 (fun C_27 => sto C_27 22 12 0 (fun C_32 => some (v1_4, C_32))))))))
/-! TenCoins$Game.faultPlace.()I -/
def f_X2_faultPlace (C : Mem) : Int32 :=
  (if (C 22 8) = (-1) then (if (C 22 9) = 4 then (if (C 22 10) = (-1) then (-1) else (C 22 7)) else (C 22 7)) else (C 22 8))
/-! TenCoins$Game.worth.(III)I -/
def L_X2_worth_28 (v4 : Int32) (C : Mem) (kx : Int32 → Option Int32) : Nat → Int32 → Int32 → Option Int32
  | 0, _, _ => none
  | n_ + 1, v6, v7 =>
    (if 3 ≤ v7 then kx v6 else gd (inb (v4 + v7) 180) (lt_ (jmax v6 (C 27 (v4 + v7).toNatClampNeg)) (fun v6_49 => lt_ (v7 + 1) (fun v7_51 => L_X2_worth_28 v4 C kx n_ v6_49 v7_51))))
def f_X2_worth (v1 : Int32) (v2 : Int32) (v3 : Int32) (C : Mem) : Option Int32 :=
  gd (inb v1 60) (lt_ ((C 29 v1.toNatClampNeg) * 3) (fun v4_8 => gd (inb (v4_8 + v2) 180) (lt_ (C 27 (v4_8 + v2).toNatClampNeg) (fun v5_19 => (L_X2_worth_28 v4_8 C (fun (v6_57 : Int32) => some ((4 * v5_19) - (v3 * (v6_57 - v5_19)))) FU v5_19 0)))))
/-! TenCoins$Game.solve.(I)V -/
def B_X2_solve_111 (v2 : Int32) (C : Mem) (kb : Int32 → Mem → Option Mem) : Option Mem :=
  lt_ (v2 + (-1)) (fun v2_111 => kb v2_111 C)
def B_X2_solve_104 (v2 : Int32) (v3 : Int32) (C : Mem) (kb : Int32 → Mem → Option Mem) : Option Mem :=
  gd (inb v3 60) (sto C 28 v3.toNatClampNeg v2 (fun C_110 => (B_X2_solve_111 v2 C_110 kb)))
def B_X2_solve_49 (x1 : Int32) (x2 : Int32) (v1 : Int32) (v2 : Int32) (C : Mem) (kb : Int32 → Mem → Option Mem) : Option Mem :=
  gd (inb x1 60) (sto C 29 x1.toNatClampNeg x2 (fun C_49 => gd (inb v2 60) (lt_ (C_49 24 v2.toNatClampNeg) (fun v3_56 => (if v3_56 = (-1) then (B_X2_solve_111 v2 C_49 kb) else gd (inb v3_56 60) ((if (C_49 28 v3_56.toNatClampNeg) = (-1) then (B_X2_solve_104 v2 v3_56 C_49 kb) else gd (inb v3_56 60) (Option.bind (f_X2_worth v2 (C_49 23 v3_56.toNatClampNeg) v1 C_49) (fun r_81 => gd (inb v3_56 60) (gd (inb v3_56 60) (Option.bind (f_X2_worth (C_49 28 v3_56.toNatClampNeg) (C_49 23 v3_56.toNatClampNeg) v1 C_49) (fun r_98 => (if r_81 < r_98 then (B_X2_solve_111 v2 C_49 kb) else (B_X2_solve_104 v2 v3_56 C_49 kb))))))))))))))
def L_X2_solve_15 (v1 : Int32) (kx : Mem → Option Mem) : Nat → Int32 → Mem → Option Mem
  | 0, _, _ => none
  | n_ + 1, v2, C =>
    (if v2 < 0 then kx C else gd (inb v2 60) ((if (C 28 v2.toNatClampNeg) = (-1) then (B_X2_solve_49 v2 v2 v1 v2 C (L_X2_solve_15 v1 kx n_)) else gd (inb v2 60) (gd (inb (C 28 v2.toNatClampNeg) 60) ((B_X2_solve_49 v2 (C 29 (C 28 v2.toNatClampNeg).toNatClampNeg) v1 v2 C (L_X2_solve_15 v1 kx n_)))))))
def f_X2_solve (v1 : Int32) (C : Mem) : Option Mem :=
  Option.bind (f_J7_fill_53178 28 60 (-1) C) (fun C_5 => lt_ ((C_5 22 11) - 1) (fun v2_14 => (L_X2_solve_15 v1 (fun (C_117 : Mem) => some C_117) FU v2_14 C_5)))
/-! TenCoins$Game.gets.(I)I -/
def f_X2_gets (v1 : Int32) (C : Mem) : Option Int32 :=
  gd (inb 0 60) (gd (inb (((C 29 (0 : Int32).toNatClampNeg) * 3) + v1) 180) (some (C 27 (((C 29 (0 : Int32).toNatClampNeg) * 3) + v1).toNatClampNeg)))
/-! TenCoins$Game.wayLength.()I -/
def L_X2_wayLength_6 (C : Mem) (kx : Int32 → Option Int32) : Nat → Int32 → Int32 → Int32 → Option Int32
  | 0, _, _, _ => none
  | n_ + 1, v1, v2, v3 =>
    (if (C 22 11) ≤ v3 then kx v1 else gd (inb v2 60) ((if (C 28 v2.toNatClampNeg) = (-1) then kx v1 else lt_ (v1 + 1) (fun v1_24 => gd (inb v2 60) (lt_ (C 28 v2.toNatClampNeg) (fun v2_33 => lt_ (v3 + 1) (fun v3_34 => L_X2_wayLength_6 C kx n_ v1_24 v2_33 v3_34)))))))
def f_X2_wayLength (C : Mem) : Option Int32 :=
  (L_X2_wayLength_6 C (fun (v1_40 : Int32) => some v1_40) FU 0 0 0)
/-! TenCoins$Game.choiceAt.(I)I -/
def L_X2_choiceAt_4 (v1 : Int32) (C : Mem) (kx : Option Int32) : Nat → Int32 → Int32 → Option Int32
  | 0, _, _ => none
  | n_ + 1, v2, v3 =>
    (if (C 22 11) ≤ v3 then kx else gd (inb v2 60) ((if (C 28 v2.toNatClampNeg) = (-1) then kx else gd (inb v2 60) (lt_ (C 28 v2.toNatClampNeg) (fun v2_28 => (if v3 = v1 then gd (inb v2_28 60) (some (C 25 v2_28.toNatClampNeg)) else lt_ (v3 + 1) (fun v3_41 => L_X2_choiceAt_4 v1 C kx n_ v2_28 v3_41)))))))
def f_X2_choiceAt (v1 : Int32) (C : Mem) : Option Int32 :=
  (L_X2_choiceAt_4 v1 C (some (-1)) FU 0 0)
/-! TenCoins$Game.leastAngerThatMatters.()I -/
def L_X2_leastAngerThatMatters_14 (v1 : Int32) (kx : Mem → Option (Int32 × Mem)) : Nat → Int32 → Mem → Option (Int32 × Mem)
  | 0, _, _ => none
  | n_ + 1, v2, C =>
    (if 40 < v2 then kx C else Option.bind (f_X2_solve v2 C) (fun C_22 => gd (inb 0 60) ((if (C_22 29 (0 : Int32).toNatClampNeg) = v1 then lt_ (v2 + 1) (fun v2_37 => L_X2_leastAngerThatMatters_14 v1 kx n_ v2_37 C_22) else some (v2, C_22)))))
def f_X2_leastAngerThatMatters (C : Mem) : Option (Int32 × Mem) :=
  Option.bind (f_X2_solve 0 C) (fun C_2 => gd (inb 0 60) (lt_ (C_2 29 (0 : Int32).toNatClampNeg) (fun v1_11 => (L_X2_leastAngerThatMatters_14 v1_11 (fun (C_43 : Mem) => some ((-1), C_43)) FU 1 C_2))))
/-! TenCoins$Means.clear.()V -/
def f_X3_clear (C : Mem) : Option Mem :=
  sto C 32 3 0 (fun C_2 => some C_2)
/-! TenCoins$Means.learn.(ILTenCoins$Tally;)V -/
def B_X3_learn_44 (x1 : Int32) (x2 : Int32) (C : Mem) : Option Mem :=
  sto C 32 3 (x1 + x2) (fun C_45 => some C_45)
def f_X3_learn (v1 : Int32) (t : Nat) (C : Mem) : Option Mem :=
  gd (inb v1 4) (sto C 33 v1.toNatClampNeg (C t 4) (fun C_9 => gd (inb v1 4) (sto C_9 34 v1.toNatClampNeg (C_9 t 2) (fun C_19 => gd (inb v1 4) (sto C_19 35 v1.toNatClampNeg v1 (fun C_26 => (if (C_26 t 2) ≤ 0 then (B_X3_learn_44 (C_26 32 3) 0 C_26) else (B_X3_learn_44 (C_26 32 3) 1 C_26))))))))
/-! TenCoins$Means.isKnown.(I)Z -/
def f_X3_isKnown (v1 : Int32) (C : Mem) : Option Bool :=
  gd (inb v1 4) ((if (C 34 v1.toNatClampNeg) ≤ 0 then some false else some true))
/-! TenCoins$Means.reorder.(I)Z -/
def B_X3_reorder_44 (v2 : Int32) (v3 : Int32) (v4 : Int32) (C : Mem) (kb : Int32 → Int32 → Mem → Option (Bool × Mem)) : Option (Bool × Mem) :=
  lt_ (v2 ||| (1 <<< (v4 &&& 31))) (fun v2_50 => gd (inb v3 4) (sto C 35 v3.toNatClampNeg v4 (fun C_58 => lt_ (v3 + 1) (fun v3_59 => kb v2_50 v3_59 C_58))))
def L_X3_reorder_4 (v1 : Int32) (kx : Mem → Option (Bool × Mem)) : Nat → Int32 → Int32 → Mem → Option (Bool × Mem)
  | 0, _, _, _ => none
  | n_ + 1, v2, v3, C =>
    (if 4 ≤ v3 then kx C else lt_ ((v1 >>> ((2 * v3) &&& 31)) &&& 3) (fun v4_16 => (if ((v2 >>> (v4_16 &&& 31)) &&& 1) = 1 then some (false, C) else Option.bind (f_X3_isKnown v3 C) (fun r_30 => (if r_30 = true then (B_X3_reorder_44 v2 v3 v4_16 C (L_X3_reorder_4 v1 kx n_)) else (if v4_16 = v3 then (B_X3_reorder_44 v2 v3 v4_16 C (L_X3_reorder_4 v1 kx n_)) else some (false, C)))))))
def f_X3_reorder (v1 : Int32) (C : Mem) : Option (Bool × Mem) :=
  (L_X3_reorder_4 v1 (fun (C_65 : Mem) => some (true, C_65)) FU 0 0 C)
/-! java/lang/Integer.compare.(II)I -/
def f_J6_compare_7cf53 (v0 : Int32) (v1 : Int32) : Int32 :=
  (if v1 ≤ v0 then (if v0 = v1 then 0 else 1) else (-1))
/-! TenCoins$Means.order.(II)I -/
def f_X3_order (v1 : Int32) (v2 : Int32) (C : Mem) : Option Int32 :=
  gd (inb v1 4) (lt_ (C 35 v1.toNatClampNeg) (fun v3_6 => gd (inb v2 4) (lt_ (C 35 v2.toNatClampNeg) (fun v4_13 => gd (inb v3_6 4) (gd (inb v4_13 4) (gd (inb v4_13 4) (gd (inb v3_6 4) (some (f_J6_compare_7cf53 ((C 33 v3_6.toNatClampNeg) * (C 34 v4_13.toNatClampNeg)) ((C 33 v4_13.toNatClampNeg) * (C 34 v3_6.toNatClampNeg)))))))))))
/-! TenCoins.isWithin.(II)Z -/
def f_X11_isWithin (v0 : Int32) (v1 : Int32) : Bool :=
  (if v0 < 0 then false else (if v1 < v0 then false else true))
/-! TenCoins.isTime.(I)Z -/
def f_X11_isTime (v0 : Int32) : Bool :=
  (f_X11_isWithin v0 999)
/-! TenCoins$Pairs.mayBeTold.(I)Z -/
def f_X4_mayBeTold (v1 : Int32) (C : Mem) : Bool :=
  (if (f_X11_isTime v1) = true then (if v1 < (C 1 7) then false else true) else false)
/-! TenCoins$Pairs.has.(I)Z -/
def f_X4_has (v1 : Int32) (C : Mem) : Bool :=
  (if v1 < 0 then false else (if (C 1 6) ≤ v1 then false else true))
/-! TenCoins$Pairs.add.(IIIII)I -/
def f_X4_add (v1 : Int32) (v2 : Int32) (v3 : Int32) (v4 : Int32) (v5 : Int32) (C : Mem) : Option (Int32 × Mem) :=
  (if (C 1 6) < 60 then gd (inb (C 1 6) 60) (sto C 2 (C 1 6).toNatClampNeg v1 (fun C_21 => gd (inb (C_21 1 6) 60) (sto C_21 3 (C_21 1 6).toNatClampNeg v2 (fun C_31 => gd (inb (C_31 1 6) 60) (sto C_31 4 (C_31 1 6).toNatClampNeg v3 (fun C_41 => gd (inb (C_41 1 6) 60) (sto C_41 5 (C_41 1 6).toNatClampNeg v4 (fun C_52 => gd (inb (C_52 1 6) 60) (sto C_52 6 (C_52 1 6).toNatClampNeg v5 (fun C_63 => gd (inb (C_63 1 6) 60) (sto C_63 7 (C_63 1 6).toNatClampNeg 1000 (fun C_75 => sto C_75 1 7 v5 (fun C_79 => sto C_79 1 6 ((C_79 1 6) + 1) (fun C_89 => some (((C_89 1 6) - 1), C_89))))))))))))))) else some ((-4), C))
/-! TenCoins$Pairs.withdraw.(II)I -/
def f_X4_withdraw (v1 : Int32) (v2 : Int32) (C : Mem) : Option (Int32 × Mem) :=
  gd (inb v1 60) ((if (C 7 v1.toNatClampNeg) = 1000 then gd (inb v1 60) (sto C 7 v1.toNatClampNeg v2 (fun C_21 => sto C_21 1 7 v2 (fun C_24 => some (1, C_24)))) else some ((-3), C)))
/-! TenCoins$Pairs.counts.(I)Z -/
def f_X4_counts (v1 : Int32) (C : Mem) : Option Bool :=
  gd (inb v1 60) ((if (C 1 8) < (C 6 v1.toNatClampNeg) then some false else gd (inb v1 60) ((if (C 7 v1.toNatClampNeg) ≤ (C 1 8) then some false else some true))))
/-! TenCoins$Pairs.isOf.(III)Z -/
def B_X4_isOf_25 : Option Bool :=
  some true
def f_X4_isOf (v1 : Int32) (v2 : Int32) (v3 : Int32) (C : Mem) : Option Bool :=
  gd (inb v1 60) ((if (C 3 v1.toNatClampNeg) = v3 then (if v2 = (-1) then B_X4_isOf_25 else gd (inb v1 60) ((if (C 2 v1.toNatClampNeg) = v2 then B_X4_isOf_25 else some false))) else some false))
/-! TenCoins$Pairs.howManyCount.()I -/
def B_X4_howManyCount_26 (x0 : Int32) (x1 : Int32) (v2 : Int32) (kb : Int32 → Int32 → Option Int32) : Option Int32 :=
  lt_ (x0 + x1) (fun v1_27 => lt_ (v2 + 1) (fun v2_28 => kb v1_27 v2_28))
def L_X4_howManyCount_4 (C : Mem) (kx : Int32 → Option Int32) : Nat → Int32 → Int32 → Option Int32
  | 0, _, _ => none
  | n_ + 1, v1, v2 =>
    (if (C 1 6) ≤ v2 then kx v1 else Option.bind (f_X4_counts v2 C) (fun r_15 => (if r_15 = true then (B_X4_howManyCount_26 v1 1 v2 (L_X4_howManyCount_4 C kx n_)) else (B_X4_howManyCount_26 v1 0 v2 (L_X4_howManyCount_4 C kx n_)))))
def f_X4_howManyCount (C : Mem) : Option Int32 :=
  (L_X4_howManyCount_4 C (fun (v1_34 : Int32) => some v1_34) FU 0 0)
/-! TenCoins$Tally.clear.()V -/
def f_X9_clear (t : Nat) (C : Mem) : Option Mem :=
  Option.bind (f_J7_fill_53178 (t + 1) 11 0 C) (fun C_5 => Option.bind (f_J7_fill_53178 (t + 2) 11 0 C_5) (fun C_13 => sto C_13 t 2 0 (fun C_18 => sto C_18 t 3 0 (fun C_23 => sto C_23 t 4 0 (fun C_28 => some C_28)))))
/-! TenCoins$Tally.add.(II)V -/
def f_X9_add (t : Nat) (v1 : Int32) (v2 : Int32) (C : Mem) : Option Mem :=
  lt_ (1 - v2) (fun v3_3 => gd (inb v1 11) (gd (inb v1 11) (sto C (t + 1) v1.toNatClampNeg ((C (t + 1) v1.toNatClampNeg) + 1) (fun C_13 => gd (inb v1 11) (gd (inb v1 11) (sto C_13 (t + 2) v1.toNatClampNeg ((C_13 (t + 2) v1.toNatClampNeg) + v3_3) (fun C_23 => sto C_23 t 2 ((C_23 t 2) + 1) (fun C_31 => sto C_31 t 3 ((C_31 t 3) + v3_3) (fun C_41 => sto C_41 t 4 ((C_41 t 4) + v1) (fun C_51 => some C_51))))))))))
/-! TenCoins$Pairs.tally.(IILTenCoins$Tally;)V -/
def B_X4_tally_54 (v4 : Int32) (C : Mem) (kb : Int32 → Mem → Option Mem) : Option Mem :=
  lt_ (v4 + 1) (fun v4_54 => kb v4_54 C)
def L_X4_tally_7 (t : Nat) (v1 : Int32) (v2 : Int32) (kx : Mem → Option Mem) : Nat → Int32 → Mem → Option Mem
  | 0, _, _ => none
  | n_ + 1, v4, C =>
    (if (C 1 6) ≤ v4 then kx C else Option.bind (f_X4_isOf v4 v1 v2 C) (fun r_21 => (if r_21 = true then Option.bind (f_X4_counts v4 C) (fun r_30 => (if r_30 = true then gd (inb v4 60) (gd (inb v4 60) (Option.bind (f_X9_add t (C 4 v4.toNatClampNeg) (C 5 v4.toNatClampNeg) C) (fun C_51 => (B_X4_tally_54 v4 C_51 (L_X4_tally_7 t v1 v2 kx n_))))) else (B_X4_tally_54 v4 C (L_X4_tally_7 t v1 v2 kx n_)))) else (B_X4_tally_54 v4 C (L_X4_tally_7 t v1 v2 kx n_)))))
def f_X4_tally (v1 : Int32) (v2 : Int32) (t : Nat) (C : Mem) : Option Mem :=
  Option.bind (f_X9_clear t C) (fun C_1 => (L_X4_tally_7 t v1 v2 (fun (C_60 : Mem) => some C_60) FU 0 C_1))
/-! TenCoins$Rounds.add.(II)I -/
def f_X5_add (v1 : Int32) (v2 : Int32) (C : Mem) : Option (Int32 × Mem) :=
  (if (C 40 2) < 24 then gd (inb (C 40 2) 24) (sto C 41 (C 40 2).toNatClampNeg v1 (fun C_21 => gd (inb (C_21 40 2) 24) (sto C_21 42 (C_21 40 2).toNatClampNeg v2 (fun C_31 => sto C_31 40 2 ((C_31 40 2) + 1) (fun C_39 => some ((C_39 40 2), C_39)))))) else some ((-4), C))
/-! TenCoins$Rounds.missesOf.(II)I -/
def B_X5_missesOf_33 (x0 : Int32) (v3 : Int32) (v4 : Int32) (C : Mem) (kb : Int32 → Int32 → Option Int32) : Option Int32 :=
  gd (inb (v4 - 1) 24) (lt_ (jmax 0 (jmin 10 ((C 41 (v4 - 1).toNatClampNeg) + x0))) (fun v6_56 => gd (inb v4 24) (lt_ (v3 + (jabs ((C 41 v4.toNatClampNeg) - v6_56))) (fun v3_73 => lt_ (v4 + 1) (fun v4_74 => kb v3_73 v4_74)))))
def L_X5_missesOf_5 (v1 : Int32) (v2 : Int32) (C : Mem) (kx : Int32 → Option Int32) : Nat → Int32 → Int32 → Option Int32
  | 0, _, _ => none
  | n_ + 1, v3, v4 =>
    (if (C 40 2) ≤ v4 then kx v3 else gd (inb (v4 - 1) 24) ((if (C 42 (v4 - 1).toNatClampNeg) = 1 then (B_X5_missesOf_33 (-v2) v3 v4 C (L_X5_missesOf_5 v1 v2 C kx n_)) else (B_X5_missesOf_33 v1 v3 v4 C (L_X5_missesOf_5 v1 v2 C kx n_)))))
def f_X5_missesOf (v1 : Int32) (v2 : Int32) (C : Mem) : Option Int32 :=
  (L_X5_missesOf_5 v1 v2 C (fun (v3_80 : Int32) => some v3_80) FU 0 1)
/-! TenCoins$Rounds.learn.()V -/
def B_X5_learn_64 (v2 : Int32) (C : Mem) (kb : Int32 → Mem → Option Mem) : Option Mem :=
  lt_ (v2 + 1) (fun v2_64 => kb v2_64 C)
def L_X5_learn_29 (v1 : Int32) (kx : Mem → Option Mem) : Nat → Int32 → Mem → Option Mem
  | 0, _, _ => none
  | n_ + 1, v2, C =>
    (if 4 < v2 then kx C else Option.bind (f_X5_missesOf v1 v2 C) (fun r_37 => (if (C 40 5) ≤ r_37 then (B_X5_learn_64 v2 C (L_X5_learn_29 v1 kx n_)) else sto C 40 5 r_37 (fun C_51 => sto C_51 40 3 v1 (fun C_56 => sto C_56 40 4 v2 (fun C_61 => (B_X5_learn_64 v2 C_61 (L_X5_learn_29 v1 kx n_))))))))
def L_X5_learn_22 (kx : Mem → Option Mem) : Nat → Int32 → Mem → Option Mem
  | 0, _, _ => none
  | n_ + 1, v1, C =>
    (if 4 < v1 then kx C else (L_X5_learn_29 v1 (fun (C_70 : Mem) => lt_ (v1 + 1) (fun v1_70 => L_X5_learn_22 kx n_ v1_70 C_70)) FU 0 C))
def f_X5_learn (C : Mem) : Option Mem :=
  sto C 40 3 0 (fun C_2 => sto C_2 40 4 0 (fun C_7 => Option.bind (f_X5_missesOf 0 0 C_7) (fun r_14 => sto C_7 40 5 r_14 (fun C_17 => (L_X5_learn_22 (fun (C_76 : Mem) => some C_76) FU 0 C_17)))))
/-! TenCoins$Rounds.got.()I -/
def L_X5_got_4 (C : Mem) (kx : Int32 → Option Int32) : Nat → Int32 → Int32 → Option Int32
  | 0, _, _ => none
  | n_ + 1, v1, v2 =>
    (if (C 40 2) ≤ v2 then kx v1 else gd (inb v2 24) (gd (inb v2 24) (lt_ (v1 + ((C 42 v2.toNatClampNeg) * (10 - (C 41 v2.toNatClampNeg)))) (fun v1_30 => lt_ (v2 + 1) (fun v2_31 => L_X5_got_4 C kx n_ v1_30 v2_31)))))
def f_X5_got (C : Mem) : Option Int32 :=
  (L_X5_got_4 C (fun (v1_37 : Int32) => some v1_37) FU 0 0)
/-! TenCoins$Rounds.takenUpTo.(I)I -/
def B_X5_takenUpTo_33 (x0 : Int32) (x1 : Int32) (v3 : Int32) (kb : Int32 → Int32 → Option Int32) : Option Int32 :=
  lt_ (x0 + x1) (fun v2_34 => lt_ (v3 + 1) (fun v3_35 => kb v2_34 v3_35))
def L_X5_takenUpTo_4 (v1 : Int32) (C : Mem) (kx : Int32 → Option Int32) : Nat → Int32 → Int32 → Option Int32
  | 0, _, _ => none
  | n_ + 1, v2, v3 =>
    (if (C 40 2) ≤ v3 then kx v2 else gd (inb v3 24) ((if v1 < (C 41 v3.toNatClampNeg) then (B_X5_takenUpTo_33 v2 0 v3 (L_X5_takenUpTo_4 v1 C kx n_)) else gd (inb v3 24) ((B_X5_takenUpTo_33 v2 (C 42 v3.toNatClampNeg) v3 (L_X5_takenUpTo_4 v1 C kx n_))))))
def f_X5_takenUpTo (v1 : Int32) (C : Mem) : Option Int32 :=
  (L_X5_takenUpTo_4 v1 C (fun (v2_41 : Int32) => some v2_41) FU 0 0)
/-! TenCoins$Rounds.could.()I -/
def L_X5_could_4 (C : Mem) (kx : Int32 → Option Int32) : Nat → Int32 → Int32 → Option Int32
  | 0, _, _ => none
  | n_ + 1, v1, v2 =>
    (if 11 ≤ v2 then kx v1 else Option.bind (f_X5_takenUpTo v2 C) (fun r_17 => lt_ (jmax v1 ((10 - v2) * r_17)) (fun v1_24 => lt_ (v2 + 1) (fun v2_25 => L_X5_could_4 C kx n_ v1_24 v2_25))))
def f_X5_could (C : Mem) : Option Int32 :=
  (L_X5_could_4 C (fun (v1_31 : Int32) => some v1_31) FU 0 0)
/-! TenCoins$Rows.has.(I)Z -/
def f_X6_has (v1 : Int32) (C : Mem) : Bool :=
  (if v1 < 0 then false else (if (C 14 3) ≤ v1 then false else true))
/-! TenCoins$Rows.add.(II)I -/
def f_X6_add (v1 : Int32) (v2 : Int32) (C : Mem) : Option (Int32 × Mem) :=
  (if (C 14 3) < 12 then gd (inb (C 14 3) 12) (sto C 15 (C 14 3).toNatClampNeg v1 (fun C_21 => gd (inb (C_21 14 3) 12) (sto C_21 16 (C_21 14 3).toNatClampNeg v2 (fun C_31 => sto C_31 14 3 ((C_31 14 3) + 1) (fun C_39 => some (((C_39 14 3) - 1), C_39)))))) else some ((-4), C))
/-! java/lang/Integer.bitCount.(I)I -/
def f_J6_bitCount_0f7a4 (v0 : Int32) : Int32 :=
  lt_ (v0 - (((v0.toUInt32 >>> ((1 : Int32).toUInt32 &&& Int32.toUInt32 31)).toInt32) &&& 1431655765)) (fun v0_9 => lt_ ((v0_9 &&& 858993459) + (((v0_9.toUInt32 >>> ((2 : Int32).toUInt32 &&& Int32.toUInt32 31)).toInt32) &&& 858993459)) (fun v0_23 => lt_ ((v0_23 + ((v0_23.toUInt32 >>> ((4 : Int32).toUInt32 &&& Int32.toUInt32 31)).toInt32)) &&& 252645135) (fun v0_33 => lt_ (v0_33 + ((v0_33.toUInt32 >>> ((8 : Int32).toUInt32 &&& Int32.toUInt32 31)).toInt32)) (fun v0_40 => lt_ (v0_40 + ((v0_40.toUInt32 >>> ((16 : Int32).toUInt32 &&& Int32.toUInt32 31)).toInt32)) (fun v0_47 => (v0_47 &&& 63))))))
/-! TenCoins$Rows.mend.(I)V -/
def B_X6_mend_74 (v3 : Int32) (C : Mem) (kb : Int32 → Mem → Option Mem) : Option Mem :=
  lt_ (v3 + (-1)) (fun v3_74 => kb v3_74 C)
def L_X6_mend_17 (v1 : Int32) (v2 : Int32) (kx : Mem → Option Mem) : Nat → Int32 → Mem → Option Mem
  | 0, _, _ => none
  | n_ + 1, v3, C =>
    (if v3 < v2 then kx C else lt_ (((1 <<< (((v3 - v2) + 1) &&& 31)) - 1) <<< (v2 &&& 31)) (fun v4_33 => gd (inb v1 12) (lt_ (f_J6_bitCount_0f7a4 ((C 16 v1.toNatClampNeg) ^^^ v4_33)) (fun v5_47 => (if (C 14 4) ≤ v5_47 then (B_X6_mend_74 v3 C (L_X6_mend_17 v1 v2 kx n_)) else sto C 14 4 v5_47 (fun C_61 => sto C_61 14 5 v2 (fun C_66 => sto C_66 14 6 v3 (fun C_71 => (B_X6_mend_74 v3 C_71 (L_X6_mend_17 v1 v2 kx n_))))))))))
def L_X6_mend_8 (v1 : Int32) (kx : Mem → Option Mem) : Nat → Int32 → Mem → Option Mem
  | 0, _, _ => none
  | n_ + 1, v2, C =>
    (if 11 ≤ v2 then kx C else (L_X6_mend_17 v1 v2 (fun (C_80 : Mem) => lt_ (v2 + 1) (fun v2_80 => L_X6_mend_8 v1 kx n_ v2_80 C_80)) FU 10 C))
def f_X6_mend (v1 : Int32) (C : Mem) : Option Mem :=
  sto C 14 4 12 (fun C_3 => (L_X6_mend_8 v1 (fun (C_86 : Mem) => some C_86) FU 0 C_3))
/-! TenCoins$Rows.isOf.(II)Z -/
def B_X6_isOf_15 : Option Bool :=
  some true
def f_X6_isOf (v1 : Int32) (v2 : Int32) (C : Mem) : Option Bool :=
  (if v2 = (-1) then B_X6_isOf_15 else gd (inb v1 12) ((if (C 15 v1.toNatClampNeg) = v2 then B_X6_isOf_15 else some false)))
/-! TenCoins$Rows.howMany.(I)I -/
def B_X6_howMany_27 (x0 : Int32) (x1 : Int32) (v3 : Int32) (kb : Int32 → Int32 → Option Int32) : Option Int32 :=
  lt_ (x0 + x1) (fun v2_28 => lt_ (v3 + 1) (fun v3_29 => kb v2_28 v3_29))
def L_X6_howMany_4 (v1 : Int32) (C : Mem) (kx : Int32 → Option Int32) : Nat → Int32 → Int32 → Option Int32
  | 0, _, _ => none
  | n_ + 1, v2, v3 =>
    (if (C 14 3) ≤ v3 then kx v2 else Option.bind (f_X6_isOf v3 v1 C) (fun r_16 => (if r_16 = true then (B_X6_howMany_27 v2 1 v3 (L_X6_howMany_4 v1 C kx n_)) else (B_X6_howMany_27 v2 0 v3 (L_X6_howMany_4 v1 C kx n_)))))
def f_X6_howMany (v1 : Int32) (C : Mem) : Option Int32 :=
  (L_X6_howMany_4 v1 C (fun (v2_35 : Int32) => some v2_35) FU 0 0)
/-! TenCoins$Rows.yeses.(II)I -/
def B_X6_yeses_38 (v3 : Int32) (v4 : Int32) (kb : Int32 → Int32 → Option Int32) : Option Int32 :=
  lt_ (v4 + 1) (fun v4_38 => kb v3 v4_38)
def L_X6_yeses_5 (v1 : Int32) (v2 : Int32) (C : Mem) (kx : Int32 → Option Int32) : Nat → Int32 → Int32 → Option Int32
  | 0, _, _ => none
  | n_ + 1, v3, v4 =>
    (if (C 14 3) ≤ v4 then kx v3 else Option.bind (f_X6_isOf v4 v1 C) (fun r_18 => (if r_18 = true then gd (inb v4 12) (lt_ (v3 + (((C 16 v4.toNatClampNeg) >>> (v2 &&& 31)) &&& 1)) (fun v3_37 => (B_X6_yeses_38 v3_37 v4 (L_X6_yeses_5 v1 v2 C kx n_)))) else (B_X6_yeses_38 v3 v4 (L_X6_yeses_5 v1 v2 C kx n_)))))
def f_X6_yeses (v1 : Int32) (v2 : Int32) (C : Mem) : Option Int32 :=
  (L_X6_yeses_5 v1 v2 C (fun (v3_44 : Int32) => some v3_44) FU 0 0)
/-! TenCoins$Rows.bring.(II)I -/
def f_X6_bring (v1 : Int32) (v2 : Int32) (C : Mem) : Option Int32 :=
  Option.bind (f_X6_yeses v1 v2 C) (fun r_7 => some ((10 - v2) * r_7))
/-! TenCoins$Rows.bestOffer.(I)I -/
def L_X6_bestOffer_2 (v1 : Int32) (kx : Mem → Option (Int32 × Mem)) : Nat → Int32 → Mem → Option (Int32 × Mem)
  | 0, _, _ => none
  | n_ + 1, v2, C =>
    (if 11 ≤ v2 then kx C else Option.bind (f_X6_bring v1 v2 C) (fun r_16 => gd (inb v2 11) (sto C 17 v2.toNatClampNeg r_16 (fun C_19 => lt_ (v2 + 1) (fun v2_20 => L_X6_bestOffer_2 v1 kx n_ v2_20 C_19)))))
def f_X6_bestOffer (v1 : Int32) (C : Mem) : Option (Int32 × Mem) :=
  (L_X6_bestOffer_2 v1 (fun (C_26 : Mem) => Option.bind (f_X11_firstGreatest 17 11 C_26) (fun r_30 => some (r_30, C_26))) FU 0 C)
/-! TenCoins$Sheets.found.(I)I -/
def f_X7_found (v1 : Int32) (C : Mem) : Option (Int32 × Mem) :=
  sto C 43 3 v1 (fun C_2 => some (((-10) - v1), C_2))
/-! TenCoins$Sheets.isLost.(I)Z -/
def f_X7_isLost (v1 : Int32) (C : Mem) : Option Bool :=
  gd (inb v1 4) ((if (C 44 v1.toNatClampNeg) = (-1) then some true else some false))
/-! TenCoins$Sheets.formOf.(I)I -/
def f_X7_formOf (v1 : Int32) (C : Mem) : Option Int32 :=
  gd (inb v1 4) (some (C 44 v1.toNatClampNeg))
/-! TenCoins$Sheets.sizeOf.(I)I -/
def f_X7_sizeOf (v1 : Int32) (C : Mem) : Option Int32 :=
  gd (inb v1 4) (some (C 45 v1.toNatClampNeg))
/-! java/util/Arrays.rangeCheck.(III)V -/
def f_J7_rangeCheck_23922 (v0 : Int32) (v1 : Int32) (v2 : Int32) : Option Unit :=
  (if v1 ≤ v2 then (if 0 ≤ v1 then (if v2 ≤ v0 then some () else none) else none) else none)
/-! java/util/Arrays.fill.([IIII)V -/
def L_J7_fill_fda19_10 (k : Nat) (n : Nat) (v2 : Int32) (v3 : Int32) (kx : Mem → Option Mem) : Nat → Int32 → Mem → Option Mem
  | 0, _, _ => none
  | n_ + 1, v4, C =>
    (if v2 ≤ v4 then kx C else gd (inb v4 n) (sto C k v4.toNatClampNeg v3 (fun C_20 => lt_ (v4 + 1) (fun v4_21 => L_J7_fill_fda19_10 k n v2 v3 kx n_ v4_21 C_20))))
def f_J7_fill_fda19 (k : Nat) (n : Nat) (v1 : Int32) (v2 : Int32) (v3 : Int32) (C : Mem) : Option Mem :=
  Option.bind (f_J7_rangeCheck_23922 (nI n) v1 v2) (fun u_4 => (L_J7_fill_fda19_10 k n v2 v3 (fun (C_27 : Mem) => some C_27) FU v1 C))
/-! TenCoins$Sheets.renew.(III)V -/
def f_X7_renew (v1 : Int32) (v2 : Int32) (v3 : Int32) (C : Mem) : Option Mem :=
  gd (inb v1 4) (sto C 44 v1.toNatClampNeg v2 (fun C_6 => gd (inb v1 4) (sto C_6 45 v1.toNatClampNeg v3 (fun C_13 => Option.bind (f_J7_fill_fda19 46 192 (v1 * 48) ((v1 + 1) * 48) 0 C_13) (fun C_29 => some C_29)))))
/-! TenCoins$Sheets.drop.(I)I -/
def f_X7_drop (v1 : Int32) (C : Mem) : Option (Int32 × Mem) :=
  gd (inb v1 4) (sto C 44 v1.toNatClampNeg (-1) (fun C_6 => gd (inb v1 4) (some ((C_6 45 v1.toNatClampNeg), C_6))))
/-! TenCoins$Sheets.findingAt.(III)I -/
def B_X7_findingAt_36 : Option Int32 :=
  some 2
def f_X7_findingAt (v1 : Int32) (v2 : Int32) (v3 : Int32) (C : Mem) : Option Int32 :=
  Option.bind (f_X7_isLost v1 C) (fun r_2 => (if r_2 = true then some 1 else gd (inb v1 4) ((if (C 44 v1.toNatClampNeg) = v2 then (if v3 < 0 then B_X7_findingAt_36 else gd (inb v1 4) ((if v3 < (C 45 v1.toNatClampNeg) then some 0 else B_X7_findingAt_36))) else some 3))))
/-! TenCoins$Sheets.item.(II)I -/
def f_X7_item (v1 : Int32) (v2 : Int32) (C : Mem) : Option Int32 :=
  gd (inb ((v1 * 48) + v2) 192) (some (C 46 ((v1 * 48) + v2).toNatClampNeg))
/-! TenCoins$Sheets.narrowed.(II)I -/
def f_X7_narrowed (v0 : Int32) (v1 : Int32) : Int32 :=
  (if v0 = 0 then (v1.toInt8.toInt32) else (if v0 = 1 then (v1.toInt16.toInt32) else v1))
/-! TenCoins$Sheets.keep.(III)V -/
def f_X7_keep (v1 : Int32) (v2 : Int32) (v3 : Int32) (C : Mem) : Option Mem :=
  gd (inb v1 4) (gd (inb ((v1 * 48) + v2) 192) (sto C 46 ((v1 * 48) + v2).toNatClampNeg (f_X7_narrowed (C 44 v1.toNatClampNeg) v3) (fun C_20 => some C_20)))
/-! TenCoins$Sheets.hasSpan.(III)Z -/
def f_X7_hasSpan (v1 : Int32) (v2 : Int32) (v3 : Int32) (C : Mem) : Option Bool :=
  (if v2 < 0 then some false else (if v3 < 0 then some false else gd (inb v1 4) ((if (C 45 v1.toNatClampNeg) < v3 then some false else gd (inb v1 4) ((if ((C 45 v1.toNatClampNeg) - v3) < v2 then some false else some true))))))
/-! TenCoins$Sheets.move.(IIIII)V -/
def f_X7_move (v1 : Int32) (v2 : Int32) (v3 : Int32) (v4 : Int32) (v5 : Int32) (C : Mem) : Option Mem :=
  gd (cpok ((v1 * 48) + v2) ((v3 * 48) + v4) v5 192) (lt_ (up2 C 46 (va_cpy (C 46) (C 46) ((v1 * 48) + v2).toNatClampNeg ((v3 * 48) + v4).toNatClampNeg v5.toNatClampNeg)) (fun C_23 => some C_23))
/-! TenCoins$Stories.change.(III)I -/
def f_X8_change (v1 : Int32) (v2 : Int32) (v3 : Int32) (C : Mem) : Option (Int32 × Mem) :=
  gd (inb ((v1 * 3) + v2) 9) (lt_ (C 39 ((v1 * 3) + v2).toNatClampNeg) (fun v4_10 => gd (inb ((v1 * 3) + v2) 9) (sto C 39 ((v1 * 3) + v2).toNatClampNeg v3 (fun C_22 => some (v4_10, C_22)))))
/-! TenCoins$Stories.spanOf.(I)I -/
def f_X8_spanOf (v0 : Int32) : Int32 :=
  (if 3 < v0 then (if 6 < v0 then 2 else 1) else 0)
/-! TenCoins$Stories.likely.(ILTenCoins$Tally;)J -/
def B_X8_likely_68 (x0 : Int64) (x1 : Int64) (v7 : Int32) (kb : Int64 → Int32 → Option Int64) : Option Int64 :=
  lt_ (x0 * x1) (fun v3_69 => lt_ (v7 + 1) (fun v7_70 => kb v3_69 v7_70))
def L_X8_likely_31 (t : Nat) (v5 : Int32) (v6 : Int32) (C : Mem) (kx : Int64 → Option Int64) : Nat → Int64 → Int32 → Option Int64
  | 0, _, _ => none
  | n_ + 1, v3, v7 =>
    gd (inb v5 11) ((if (C (t + 1) v5.toNatClampNeg) ≤ v7 then kx v3 else gd (inb v5 11) ((if (C (t + 2) v5.toNatClampNeg) ≤ v7 then (B_X8_likely_68 v3 ((16 - v6).toInt64) v7 (L_X8_likely_31 t v5 v6 C kx n_)) else (B_X8_likely_68 v3 (v6.toInt64) v7 (L_X8_likely_31 t v5 v6 C kx n_))))))
def L_X8_likely_5 (t : Nat) (v1 : Int32) (C : Mem) (kx : Int64 → Option Int64) : Nat → Int64 → Int32 → Option Int64
  | 0, _, _ => none
  | n_ + 1, v3, v5 =>
    (if 11 ≤ v5 then kx v3 else gd (inb ((v1 * 3) + (f_X8_spanOf v5)) 9) (lt_ (C 39 ((v1 * 3) + (f_X8_spanOf v5)).toNatClampNeg) (fun v6_26 => (L_X8_likely_31 t v5 v6_26 C (fun (v3_76 : Int64) => lt_ (v5 + 1) (fun v5_76 => L_X8_likely_5 t v1 C kx n_ v3_76 v5_76)) FU v3 0))))
def f_X8_likely (v1 : Int32) (t : Nat) (C : Mem) : Option Int64 :=
  (L_X8_likely_5 t v1 C (fun (v3_82 : Int64) => some v3_82) FU 1 0)
/-! TenCoins$Tally.middle.()I -/
def L_X9_middle_4 (t : Nat) (C : Mem) (kx : Option Int32) : Nat → Int32 → Int32 → Option Int32
  | 0, _, _ => none
  | n_ + 1, v1, v2 =>
    (if 11 ≤ v2 then kx else gd (inb v2 11) (lt_ (v1 + (C (t + 1) v2.toNatClampNeg)) (fun v1_18 => (if (2 * v1_18) < (C t 2) then lt_ (v2 + 1) (fun v2_31 => L_X9_middle_4 t C kx n_ v1_18 v2_31) else some v2))))
def f_X9_middle (t : Nat) (C : Mem) : Option Int32 :=
  (L_X9_middle_4 t C (some 10) FU 0 0)
/-! TenCoins$Things.has.(I)Z -/
def f_X10_has (v1 : Int32) (C : Mem) : Bool :=
  (if v1 < 0 then false else (if (C 36 1) ≤ v1 then false else true))
/-! TenCoins$Things.add.(IIII)I -/
def f_X10_add (v1 : Int32) (v2 : Int32) (v3 : Int32) (v4 : Int32) (C : Mem) : Option (Int32 × Mem) :=
  (if (C 36 1) < 6 then lt_ ((C 36 1) * 4) (fun v5_18 => gd (inb v5_18 24) (sto C 37 v5_18.toNatClampNeg v1 (fun C_27 => gd (inb (v5_18 + 1) 24) (sto C_27 37 (v5_18 + 1).toNatClampNeg v2 (fun C_37 => gd (inb (v5_18 + 2) 24) (sto C_37 37 (v5_18 + 2).toNatClampNeg v3 (fun C_47 => gd (inb (v5_18 + 3) 24) (sto C_47 37 (v5_18 + 3).toNatClampNeg v4 (fun C_58 => sto C_58 36 1 ((C_58 36 1) + 1) (fun C_66 => some (((C_66 36 1) - 1), C_66))))))))))) else some ((-4), C))
/-! TenCoins$Things.together.(ILTenCoins$Means;)I -/
def B_X10_together_83 (v4 : Int32) (v6 : Int32) (kb : Int32 → Int32 → Option Int32) : Option Int32 :=
  lt_ (v6 + 1) (fun v6_83 => kb v4 v6_83)
def L_X10_together_19 (v3 : Int32) (v5 : Int32) (C : Mem) (kx : Int32 → Option Int32) : Nat → Int32 → Int32 → Option Int32
  | 0, _, _ => none
  | n_ + 1, v4, v6 =>
    (if v5 ≤ v6 then kx v4 else Option.bind (f_X3_isKnown v5 C) (fun r_29 => (if r_29 = true then Option.bind (f_X3_isKnown v6 C) (fun r_38 => (if r_38 = true then gd (inb (v3 + v5) 24) (gd (inb (v3 + v6) 24) (lt_ (f_J6_compare_7cf53 (C 37 (v3 + v5).toNatClampNeg) (C 37 (v3 + v6).toNatClampNeg)) (fun v7_65 => Option.bind (f_X3_order v5 v6 C) (fun r_76 => lt_ (v4 + (v7_65 * r_76)) (fun v4_81 => (B_X10_together_83 v4_81 v6 (L_X10_together_19 v3 v5 C kx n_))))))) else (B_X10_together_83 v4 v6 (L_X10_together_19 v3 v5 C kx n_)))) else (B_X10_together_83 v4 v6 (L_X10_together_19 v3 v5 C kx n_)))))
def L_X10_together_10 (v3 : Int32) (C : Mem) (kx : Int32 → Option Int32) : Nat → Int32 → Int32 → Option Int32
  | 0, _, _ => none
  | n_ + 1, v4, v5 =>
    (if 4 ≤ v5 then kx v4 else (L_X10_together_19 v3 v5 C (fun (v4_89 : Int32) => lt_ (v5 + 1) (fun v5_89 => L_X10_together_10 v3 C kx n_ v4_89 v5_89)) FU v4 0))
def f_X10_together (v1 : Int32) (C : Mem) : Option Int32 :=
  lt_ (v1 * 4) (fun v3_3 => (L_X10_together_10 v3_3 C (fun (v4_95 : Int32) => some v4_95) FU 0 0))
/-! TenCoins$Things.greatest.(LTenCoins$Means;)I -/
def L_X10_greatest_4 (C : Mem) (kx : Int32 → Option Int32) : Nat → Int32 → Int32 → Option Int32
  | 0, _, _ => none
  | n_ + 1, v2, v3 =>
    (if (C 36 1) ≤ v3 then kx v2 else Option.bind (f_X10_together v3 C) (fun r_16 => lt_ (jmax v2 (jabs r_16)) (fun v2_25 => lt_ (v3 + 1) (fun v3_26 => L_X10_greatest_4 C kx n_ v2_25 v3_26))))
def f_X10_greatest (C : Mem) : Option Int32 :=
  (L_X10_greatest_4 C (fun (v2_32 : Int32) => some v2_32) FU 0 0)
/-! TenCoins.isPeople.(I)Z -/
def f_X11_isPeople (v0 : Int32) : Bool :=
  (f_X11_isWithin v0 3)
/-! TenCoins.isKind.(I)Z -/
def f_X11_isKind (v0 : Int32) : Bool :=
  (f_X11_isWithin v0 3)
/-! TenCoins.isOffer.(I)Z -/
def f_X11_isOffer (v0 : Int32) : Bool :=
  (f_X11_isWithin v0 10)
/-! TenCoins.isAnswer.(I)Z -/
def f_X11_isAnswer (v0 : Int32) : Bool :=
  (f_X11_isWithin v0 1)
/-! TenCoins.pair.(IIIII)I -/
def B_X11_pair_42 (v1 : Int32) (v2 : Int32) (v3 : Int32) (v4 : Int32) (v5 : Int32) (C : Mem) : Option (Int32 × Mem) :=
  (if (f_X4_mayBeTold v5 C) = true then bnd2 (f_X4_add v1 v2 v3 v4 v5 C) (fun r_68 C_68 => some (r_68, C_68)) else some ((-2), C))
def f_X11_pair (v1 : Int32) (v2 : Int32) (v3 : Int32) (v4 : Int32) (v5 : Int32) (C : Mem) : Option (Int32 × Mem) :=
  (if (f_X11_isPeople v1) = true then (if (f_X11_isKind v2) = true then (if (f_X11_isOffer v3) = true then (if (f_X11_isAnswer v4) = true then (if v2 = 1 then (if v4 = 0 then some ((-2), C) else (B_X11_pair_42 v1 v2 v3 v4 v5 C)) else (B_X11_pair_42 v1 v2 v3 v4 v5 C)) else some ((-2), C)) else some ((-2), C)) else some ((-2), C)) else some ((-2), C))
/-! TenCoins.isSheet.(I)Z -/
def f_X11_isSheet (v0 : Int32) : Bool :=
  (f_X11_isWithin v0 3)
/-! TenCoins.read.(IIII)I -/
def L_X11_read_71 (v1 : Int32) (v2 : Int32) (v3 : Int32) (v4 : Int32) (v5 : Int32) (kx : Mem → Option (Int32 × Mem)) : Nat → Int32 → Mem → Option (Int32 × Mem)
  | 0, _, _ => none
  | n_ + 1, v6, C =>
    (if v5 ≤ v6 then kx C else Option.bind (f_X7_item v1 (2 * v6) C) (fun r_90 => Option.bind (f_X7_item v1 ((2 * v6) + 1) C) (fun r_104 => bnd2 (f_X11_pair v2 v3 r_90 r_104 v4 C) (fun r_109 C_109 => (if 0 ≤ r_109 then lt_ (v6 + 1) (fun v6_118 => L_X11_read_71 v1 v2 v3 v4 v5 kx n_ v6_118 C_109) else some (v6, C_109))))))
def f_X11_read (v1 : Int32) (v2 : Int32) (v3 : Int32) (v4 : Int32) (C : Mem) : Option (Int32 × Mem) :=
  (if (f_X11_isSheet v1) = true then (if (f_X11_isPeople v2) = true then (if (f_X11_isKind v3) = true then (if (f_X4_mayBeTold v4 C) = true then Option.bind (f_X7_isLost v1 C) (fun r_41 => (if r_41 = true then bnd2 (f_X7_found 1 C) (fun r_52 C_52 => some (r_52, C_52)) else Option.bind (f_X7_sizeOf v1 C) (fun r_61 => lt_ (r_61 / 2) (fun v5_66 => (L_X11_read_71 v1 v2 v3 v4 v5_66 (fun (C_124 : Mem) => some (v5_66, C_124)) FU 0 C))))) else some ((-2), C)) else some ((-2), C)) else some ((-2), C)) else some ((-2), C))
/-! TenCoins.takeBack.(II)I -/
def f_X11_takeBack (v1 : Int32) (v2 : Int32) (C : Mem) : Option (Int32 × Mem) :=
  (if (f_X4_has v1 C) = true then (if (f_X4_mayBeTold v2 C) = true then bnd2 (f_X4_withdraw v1 v2 C) (fun r_31 C_31 => some (r_31, C_31)) else some ((-2), C)) else some ((-2), C))
/-! TenCoins.asOf.(I)I -/
def f_X11_asOf (v1 : Int32) (C : Mem) : Option (Int32 × Mem) :=
  (if (f_X11_isTime v1) = true then lt_ (C 1 8) (fun v2_17 => sto C 1 8 v1 (fun C_23 => some (v2_17, C_23))) else some ((-2), C))
/-! TenCoins.isPeopleOrAll.(I)Z -/
def B_X11_isPeopleOrAll_12 : Bool :=
  true
def f_X11_isPeopleOrAll (v0 : Int32) : Bool :=
  (if v0 = (-1) then B_X11_isPeopleOrAll_12 else (if (f_X11_isPeople v0) = true then B_X11_isPeopleOrAll_12 else false))
/-! TenCoins.many.(III)I -/
def f_X11_many (v1 : Int32) (v2 : Int32) (v3 : Int32) (C : Mem) : Option (Int32 × Mem) :=
  (if (f_X11_isPeopleOrAll v1) = true then (if (f_X11_isKind v2) = true then (if (f_X11_isWithin v3 2) = true then Option.bind (f_X4_tally v1 v2 8 C) (fun C_35 => (if v3 = 0 then some ((C_35 8 2), C_35) else (if v3 = 1 then some ((C_35 8 3), C_35) else (if (C_35 8 2) = 0 then some ((-3), C_35) else Option.bind (f_X9_middle 8 C_35) (fun r_82 => some (r_82, C_35)))))) else some ((-2), C)) else some ((-2), C)) else some ((-2), C))
/-! TenCoins.isPart.(I)Z -/
def f_X11_isPart (v0 : Int32) : Bool :=
  (f_X11_isWithin v0 1)
/-! TenCoins.asLong.(I)J -/
def f_X11_asLong (v0 : Int32) : Int64 :=
  ((-9223372036854775808) - (v0.toInt64))
/-! TenCoins.greatestDivisor.(JJ)J -/
def L_X11_greatestDivisor_9 (kx : Int64 → Option Int64) : Nat → Int64 → Int64 → Int32 → Option Int64
  | 0, _, _, _ => none
  | n_ + 1, v4, v6, v8 =>
    (if 200 ≤ v8 then kx v4 else (if (lg_cmp v6 0) = 0 then kx v4 else gd (decide (¬ v6 = 0)) (lt_ (v4 - v4 / v6 * v6) (fun v9_29 => lt_ (v8 + 1) (fun v8_39 => L_X11_greatestDivisor_9 kx n_ v6 v9_29 v8_39)))))
def f_X11_greatestDivisor (v0 : Int64) (v2 : Int64) : Option Int64 :=
  (L_X11_greatestDivisor_9 (fun (v4_45 : Int64) => some v4_45) FU v0 v2 0)
/-! TenCoins.fraction.(JJI)J -/
def f_X11_fraction (v0 : Int64) (v2 : Int64) (v4 : Int32) : Option Int64 :=
  Option.bind (f_X11_greatestDivisor (jabsl v0) v2) (fun r_5 => (if (lg_cmp r_5 0) = 0 then some 0 else (if v4 = 0 then gd (decide (¬ r_5 = 0)) (some (v0 / r_5)) else gd (decide (¬ r_5 = 0)) (some (v2 / r_5)))))
/-! TenCoins.mean.(III)J -/
def B_X11_mean_21 (C : Mem) : Option (Int64 × Mem) :=
  some ((f_X11_asLong (-2)), C)
def f_X11_mean (v1 : Int32) (v2 : Int32) (v3 : Int32) (C : Mem) : Option (Int64 × Mem) :=
  (if (f_X11_isPeopleOrAll v1) = true then (if (f_X11_isKind v2) = true then (if (f_X11_isPart v3) = true then Option.bind (f_X4_tally v1 v2 8 C) (fun C_37 => (if (C_37 8 2) = 0 then some ((f_X11_asLong (-3)), C_37) else Option.bind (f_X11_fraction ((C_37 8 4).toInt64) ((C_37 8 2).toInt64) v3) (fun r_73 => some (r_73, C_37)))) else (B_X11_mean_21 C)) else (B_X11_mean_21 C)) else (B_X11_mean_21 C))
/-! TenCoins.refused.(IIII)J -/
def B_X11_refused_29 (C : Mem) : Option (Int64 × Mem) :=
  some ((f_X11_asLong (-2)), C)
def f_X11_refused (v1 : Int32) (v2 : Int32) (v3 : Int32) (v4 : Int32) (C : Mem) : Option (Int64 × Mem) :=
  (if (f_X11_isPeopleOrAll v1) = true then (if (f_X11_isKind v2) = true then (if (f_X11_isOffer v3) = true then (if (f_X11_isPart v4) = true then Option.bind (f_X4_tally v1 v2 8 C) (fun C_45 => gd (inb v3 11) ((if (C_45 9 v3.toNatClampNeg) = 0 then some ((f_X11_asLong (-3)), C_45) else gd (inb v3 11) (gd (inb v3 11) (Option.bind (f_X11_fraction ((C_45 10 v3.toNatClampNeg).toInt64) ((C_45 9 v3.toNatClampNeg).toInt64) v4) (fun r_88 => some (r_88, C_45))))))) else (B_X11_refused_29 C)) else (B_X11_refused_29 C)) else (B_X11_refused_29 C)) else (B_X11_refused_29 C))
/-! TenCoins.lessKind.(I)I -/
def f_X11_lessKind (v0 : Int32) : Int32 :=
  (if v0 = 0 then 1 else (if v0 = 1 then 0 else 2))
/-! TenCoins.moves.(III)J -/
def B_X11_moves_22 (C : Mem) : Option (Int64 × Mem) :=
  some ((f_X11_asLong (-2)), C)
def B_X11_moves_86 (C : Mem) : Option (Int64 × Mem) :=
  some ((f_X11_asLong (-3)), C)
def B_X11_moves_138 (x0 : Int32) (v3 : Int32) (v4 : Int32) (C : Mem) : Option (Int64 × Mem) :=
  Option.bind (f_X11_fraction (((v4 * (C 11 2)) - (x0 * (C 8 2))).toInt64) (((C 8 2) * (C 11 2)).toInt64) v3) (fun r_179 => some (r_179, C))
def B_X11_moves_114 (x0 : Int32) (v2 : Int32) (v3 : Int32) (C : Mem) : Option (Int64 × Mem) :=
  (if v2 = 2 then (B_X11_moves_138 (C 11 3) v3 x0 C) else (B_X11_moves_138 (C 11 4) v3 x0 C))
def B_X11_moves_43 (x1 : Int32) (x2 : Int32) (v1 : Int32) (v2 : Int32) (v3 : Int32) (C : Mem) : Option (Int64 × Mem) :=
  Option.bind (f_X4_tally x1 x2 8 C) (fun C_47 => Option.bind (f_X4_tally v1 (f_X11_lessKind v2) 11 C_47) (fun C_63 => (if (C_63 8 2) = 0 then (B_X11_moves_86 C_63) else (if (C_63 11 2) = 0 then (B_X11_moves_86 C_63) else (if v2 = 2 then (B_X11_moves_114 (C_63 8 3) v2 v3 C_63) else (B_X11_moves_114 (C_63 8 4) v2 v3 C_63))))))
def f_X11_moves (v1 : Int32) (v2 : Int32) (v3 : Int32) (C : Mem) : Option (Int64 × Mem) :=
  (if (f_X11_isPeopleOrAll v1) = true then (if (f_X11_isWithin v2 2) = true then (if (f_X11_isPart v3) = true then (if v2 = 1 then (B_X11_moves_43 v1 3 v1 v2 v3 C) else (B_X11_moves_43 v1 0 v1 v2 v3 C)) else (B_X11_moves_22 C)) else (B_X11_moves_22 C)) else (B_X11_moves_22 C))
/-! TenCoins.row.(II)I -/
def f_X11_row (v1 : Int32) (v2 : Int32) (C : Mem) : Option (Int32 × Mem) :=
  (if (f_X11_isPeople v1) = true then (if (f_X11_isWithin v2 2047) = true then bnd2 (f_X6_add v1 v2 C) (fun r_26 C_26 => some (r_26, C_26)) else some ((-2), C)) else some ((-2), C))
/-! TenCoins.line.(II)I -/
def f_X11_line (v1 : Int32) (v2 : Int32) (C : Mem) : Option (Int32 × Mem) :=
  (if (f_X6_has v1 C) = true then (if (f_X11_isWithin v2 2) = true then Option.bind (f_X6_mend v1 C) (fun C_27 => (if v2 = 0 then some ((C_27 14 4), C_27) else (if v2 = 1 then some ((C_27 14 5), C_27) else some ((C_27 14 6), C_27)))) else some ((-2), C)) else some ((-2), C))
/-! TenCoins.taken.(III)J -/
def B_X11_taken_21 : Option Int64 :=
  some (f_X11_asLong (-2))
def f_X11_taken (v1 : Int32) (v2 : Int32) (v3 : Int32) (C : Mem) : Option Int64 :=
  (if (f_X11_isPeopleOrAll v1) = true then (if (f_X11_isOffer v2) = true then (if (f_X11_isPart v3) = true then Option.bind (f_X6_howMany v1 C) (fun r_32 => (if r_32 = 0 then some (f_X11_asLong (-3)) else Option.bind (f_X6_yeses v1 v2 C) (fun r_54 => Option.bind (f_X11_fraction (r_54.toInt64) (r_32.toInt64) v3) (fun r_62 => some r_62)))) else B_X11_taken_21) else B_X11_taken_21) else B_X11_taken_21)
/-! TenCoins.best.(I)I -/
def f_X11_best (v1 : Int32) (C : Mem) : Option (Int32 × Mem) :=
  (if (f_X11_isPeopleOrAll v1) = true then Option.bind (f_X6_howMany v1 C) (fun r_15 => (if r_15 = 0 then some ((-3), C) else bnd2 (f_X6_bestOffer v1 C) (fun r_31 C_31 => some (r_31, C_31)))) else some ((-2), C))
/-! TenCoins.belief.(I)I -/
def f_X11_belief (v1 : Int32) (C : Mem) : Option (Int32 × Mem) :=
  (if (f_X11_isPeople v1) = true then bnd2 (f_X0_add v1 C) (fun r_15 C_15 => some (r_15, C_15)) else some ((-2), C))
/-! TenCoins.believe.(III)I -/
def f_X11_believe (v1 : Int32) (v2 : Int32) (v3 : Int32) (C : Mem) : Option (Int32 × Mem) :=
  (if (f_X0_has v1 C) = true then (if (f_X11_isOffer v2) = true then (if (f_X11_isWithin v3 10) = true then bnd2 (f_X0_change v1 v2 v3 C) (fun r_37 C_37 => some (r_37, C_37)) else some ((-2), C)) else some ((-2), C)) else some ((-2), C))
/-! TenCoins.hisBest.(I)I -/
def f_X11_hisBest (v1 : Int32) (C : Mem) : Option (Int32 × Mem) :=
  (if (f_X0_has v1 C) = true then bnd2 (f_X0_bestOffer v1 C) (fun r_19 C_19 => some (r_19, C_19)) else some ((-2), C))
/-! TenCoins.amountsOff.(III)I -/
def L_X11_amountsOff_6 (v1 : Int32) (v2 : Int32) (v3 : Int32) (C : Mem) (kx : Int32 → Option Int32) : Nat → Int32 → Int32 → Option Int32
  | 0, _, _ => none
  | n_ + 1, v4, v5 =>
    (if 11 ≤ v5 then kx v4 else Option.bind (f_X0_said v1 v5 C) (fun r_22 => Option.bind (f_X6_yeses v2 v5 C) (fun r_36 => lt_ (v4 + (jabs ((r_22 * v3) - (10 * r_36)))) (fun v4_45 => lt_ (v5 + 1) (fun v5_47 => L_X11_amountsOff_6 v1 v2 v3 C kx n_ v4_45 v5_47)))))
def f_X11_amountsOff (v1 : Int32) (v2 : Int32) (v3 : Int32) (C : Mem) : Option Int32 :=
  (L_X11_amountsOff_6 v1 v2 v3 C (fun (v4_53 : Int32) => some v4_53) FU 0 0)
/-! TenCoins.off.(III)J -/
def B_X11_off_26 (C : Mem) : Option (Int64 × Mem) :=
  some ((f_X11_asLong (-2)), C)
def f_X11_off (v1 : Int32) (v2 : Int32) (v3 : Int32) (C : Mem) : Option (Int64 × Mem) :=
  (if (f_X0_has v1 C) = true then (if (f_X11_isWithin v2 1) = true then (if (f_X11_isPart v3) = true then gd (inb v1 8) (lt_ (C 19 v1.toNatClampNeg) (fun v4_41 => Option.bind (f_X6_howMany v4_41 C) (fun r_49 => (if r_49 = 0 then some ((f_X11_asLong (-3)), C) else (if v2 = 0 then Option.bind (f_X11_amountsOff v1 v4_41 r_49 C) (fun r_75 => Option.bind (f_X11_fraction (r_75.toInt64) ((10 * r_49).toInt64) v3) (fun r_86 => some (r_86, C))) else bnd2 (f_X6_bestOffer v4_41 C) (fun r_102 C_102 => Option.bind (f_X6_bring v4_41 r_102 C_102) (fun r_105 => bnd2 (f_X0_bestOffer v1 C_102) (fun r_119 C_119 => Option.bind (f_X6_bring v4_41 r_119 C_119) (fun r_122 => lt_ (r_105 - r_122) (fun v6_126 => Option.bind (f_X11_fraction (v6_126.toInt64) (r_49.toInt64) v3) (fun r_135 => some (r_135, C_119)))))))))))) else (B_X11_off_26 C)) else (B_X11_off_26 C)) else (B_X11_off_26 C))
/-! TenCoins.type.(I)I -/
def f_X11_type (v1 : Int32) (C : Mem) : Option (Int32 × Mem) :=
  (if (f_X11_isWithin v1 255) = true then bnd2 (f_X2_add v1 C) (fun r_18 C_18 => some (r_18, C_18)) else some ((-2), C))
/-! TenCoins.wipe.()I -/
def f_X11_wipe (C : Mem) : Option (Int32 × Mem) :=
  bnd2 (f_X2_clear C) (fun r_4 C_4 => some (r_4, C_4))
/-! TenCoins.fault.()I -/
def f_X11_fault (C : Mem) : Int32 :=
  (f_X2_faultPlace C)
/-! TenCoins.reckon.(II)I -/
def f_X11_reckon (v1 : Int32) (v2 : Int32) (C : Mem) : Option (Int32 × Mem) :=
  (if (f_X11_isWithin v1 40) = true then (if (f_X11_isWithin v2 5) = true then (if (f_X2_faultPlace C) = (-1) then (if v2 = 4 then some ((C 22 12), C) else (if v2 = 5 then some (((C 22 11) - (C 22 12)), C) else Option.bind (f_X2_solve v1 C) (fun C_73 => (if v2 = 3 then Option.bind (f_X2_wayLength C_73) (fun r_85 => some (r_85, C_73)) else Option.bind (f_X2_gets v2 C_73) (fun r_96 => some (r_96, C_73)))))) else some ((-3), C)) else some ((-2), C)) else some ((-2), C))
/-! TenCoins.how.(II)I -/
def f_X11_how (v1 : Int32) (v2 : Int32) (C : Mem) : Option (Int32 × Mem) :=
  (if (f_X11_isWithin v1 40) = true then (if 0 ≤ v2 then (if (f_X2_faultPlace C) = (-1) then Option.bind (f_X2_solve v1 C) (fun C_35 => Option.bind (f_X2_choiceAt v2 C_35) (fun r_43 => some (r_43, C_35))) else some ((-3), C)) else some ((-2), C)) else some ((-2), C))
/-! TenCoins.temper.()I -/
def f_X11_temper (C : Mem) : Option (Int32 × Mem) :=
  (if (f_X2_faultPlace C) = (-1) then bnd2 (f_X2_leastAngerThatMatters C) (fun r_18 C_18 => some (r_18, C_18)) else some ((-3), C))
/-! TenCoins.two.(II)I -/
def B_X11_two_155 (t : Nat) (C : Mem) : Option (Int32 × Mem) :=
  Option.bind (f_X1_asFarApart t C) (fun r_155 => some (r_155, C))
def f_X11_two (v1 : Int32) (v2 : Int32) (C : Mem) : Option (Int32 × Mem) :=
  (if (f_X11_isPeople v1) = true then (if (f_X11_isPeople v2) = true then (if v1 = v2 then some ((-2), C) else Option.bind (f_X4_tally v1 0 8 C) (fun C_32 => Option.bind (f_X4_tally v2 0 11 C_32) (fun C_45 => (if (C_45 8 2) = 0 then some ((-3), C_45) else (if (C_45 11 2) = 0 then some ((-3), C_45) else (if ((C_45 8 2) + (C_45 11 2)) ≤ 14 then Option.bind (f_X1_clear C_45) (fun C_98 => Option.bind (f_X1_pool 8 C_98) (fun C_109 => Option.bind (f_X1_pool 11 C_109) (fun C_120 => (if (C_120 11 2) < (C_120 8 2) then (B_X11_two_155 11 C_120) else (B_X11_two_155 8 C_120))))) else some ((-4), C_45))))))) else some ((-2), C)) else some ((-2), C))
/-! TenCoins.thing.(IIII)I -/
def f_X11_thing (v1 : Int32) (v2 : Int32) (v3 : Int32) (v4 : Int32) (C : Mem) : Option (Int32 × Mem) :=
  (if (f_X11_isWithin v1 99) = true then (if (f_X11_isWithin v2 99) = true then (if (f_X11_isWithin v3 99) = true then (if (f_X11_isWithin v4 99) = true then bnd2 (f_X10_add v1 v2 v3 v4 C) (fun r_49 C_49 => some (r_49, C_49)) else some ((-2), C)) else some ((-2), C)) else some ((-2), C)) else some ((-2), C))
/-! TenCoins.learnMeans.()V -/
def L_X11_learnMeans_9 (kx : Mem → Option Mem) : Nat → Int32 → Mem → Option Mem
  | 0, _, _ => none
  | n_ + 1, v1, C =>
    (if 4 ≤ v1 then kx C else Option.bind (f_X4_tally v1 0 8 C) (fun C_24 => Option.bind (f_X3_learn v1 8 C_24) (fun C_36 => lt_ (v1 + 1) (fun v1_39 => L_X11_learnMeans_9 kx n_ v1_39 C_36))))
def f_X11_learnMeans (C : Mem) : Option Mem :=
  Option.bind (f_X3_clear C) (fun C_4 => (L_X11_learnMeans_9 (fun (C_45 : Mem) => some C_45) FU 0 C_4))
/-! TenCoins.goes.(I)I -/
def f_X11_goes (v1 : Int32) (C : Mem) : Option (Int32 × Mem) :=
  (if (f_X10_has v1 C) = true then Option.bind (f_X11_learnMeans C) (fun C_15 => Option.bind (f_X10_together v1 C_15) (fun r_27 => some (r_27, C_15))) else some ((-99), C))
/-! TenCoins.looked.()I -/
def B_X11_looked_93 (v2 : Int32) (v3 : Int32) (v4 : Int32) (C : Mem) (kb : Int32 → Int32 → Int32 → Mem → Option (Int32 × Mem)) : Option (Int32 × Mem) :=
  lt_ (v4 + 1) (fun v4_93 => kb v2 v3 v4_93 C)
def B_X11_looked_91 (x0 : Int32) (x1 : Int32) (v2 : Int32) (v4 : Int32) (C : Mem) (kb : Int32 → Int32 → Int32 → Mem → Option (Int32 × Mem)) : Option (Int32 × Mem) :=
  lt_ (x0 + x1) (fun v3_92 => (B_X11_looked_93 v2 v3_92 v4 C kb))
def L_X11_looked_47 (v1 : Int32) (kx : Int32 → Int32 → Mem → Option (Int32 × Mem)) : Nat → Int32 → Int32 → Int32 → Mem → Option (Int32 × Mem)
  | 0, _, _, _, _ => none
  | n_ + 1, v2, v3, v4, C =>
    (if 256 ≤ v4 then kx v2 v3 C else bnd2 (f_X3_reorder v4 C) (fun r_61 C_61 => (if r_61 = true then lt_ (v2 + 1) (fun v2_67 => Option.bind (f_X10_greatest C_61) (fun r_79 => (if r_79 < v1 then (B_X11_looked_91 v3 0 v2_67 v4 C_61 (L_X11_looked_47 v1 kx n_)) else (B_X11_looked_91 v3 1 v2_67 v4 C_61 (L_X11_looked_47 v1 kx n_))))) else (B_X11_looked_93 v2 v3 v4 C_61 (L_X11_looked_47 v1 kx n_)))))
def f_X11_looked (C : Mem) : Option (Int32 × Mem) :=
  Option.bind (f_X11_learnMeans C) (fun C_1 => (if (C_1 36 1) = 0 then some ((-3), C_1) else (if 2 ≤ (C_1 32 3) then Option.bind (f_X10_greatest C_1) (fun r_36 => (L_X11_looked_47 r_36 (fun (v2_99 : Int32) (v3_99 : Int32) (C_99 : Mem) => Option.bind (f_X11_millionths v3_99 v2_99) (fun r_101 => some (r_101, C_99))) FU 0 0 0 C_1)) else some ((-3), C_1))))
/-! TenCoins.story.(III)I -/
def f_X11_story (v1 : Int32) (v2 : Int32) (v3 : Int32) (C : Mem) : Option (Int32 × Mem) :=
  (if (f_X11_isWithin v1 2) = true then (if (f_X11_isWithin v2 2) = true then (if v3 < 1 then some ((-2), C) else (if v3 ≤ 15 then bnd2 (f_X8_change v1 v2 v3 C) (fun r_40 C_40 => some (r_40, C_40)) else some ((-2), C))) else some ((-2), C)) else some ((-2), C))
/-! TenCoins.odds.(III)J -/
def B_X11_odds_22 (C : Mem) : Option (Int64 × Mem) :=
  some ((f_X11_asLong (-2)), C)
def L_X11_odds_65 (C : Mem) (kx : Int64 → Option (Int64 × Mem)) : Nat → Int64 → Int32 → Option (Int64 × Mem)
  | 0, _, _ => none
  | n_ + 1, v4, v6 =>
    (if 3 ≤ v6 then kx v4 else Option.bind (f_X8_likely v6 8 C) (fun r_83 => lt_ (v4 + r_83) (fun v4_87 => lt_ (v6 + 1) (fun v6_89 => L_X11_odds_65 C kx n_ v4_87 v6_89))))
def f_X11_odds (v1 : Int32) (v2 : Int32) (v3 : Int32) (C : Mem) : Option (Int64 × Mem) :=
  (if (f_X11_isPeopleOrAll v1) = true then (if (f_X11_isWithin v2 2) = true then (if (f_X11_isPart v3) = true then Option.bind (f_X4_tally v1 0 8 C) (fun C_38 => (if (C_38 8 2) ≤ 14 then (L_X11_odds_65 C_38 (fun (v4_95 : Int64) => Option.bind (f_X8_likely v2 8 C_38) (fun r_104 => Option.bind (f_X11_fraction r_104 v4_95 v3) (fun r_110 => some (r_110, C_38)))) FU 0 0) else some ((f_X11_asLong (-4)), C_38))) else (B_X11_odds_22 C)) else (B_X11_odds_22 C)) else (B_X11_odds_22 C))
/-! TenCoins.round.(II)I -/
def f_X11_round (v1 : Int32) (v2 : Int32) (C : Mem) : Option (Int32 × Mem) :=
  (if (f_X11_isOffer v1) = true then (if (f_X11_isAnswer v2) = true then bnd2 (f_X5_add v1 v2 C) (fun r_23 C_23 => some (r_23, C_23)) else some ((-2), C)) else some ((-2), C))
/-! TenCoins.forget.()I -/
def f_X11_forget (C : Mem) : Option (Int32 × Mem) :=
  lt_ (C 40 2) (fun v1_7 => sto C 40 2 0 (fun C_13 => some (v1_7, C_13)))
/-! TenCoins.misses.(II)I -/
def f_X11_misses (v1 : Int32) (v2 : Int32) (C : Mem) : Option Int32 :=
  (if (f_X11_isWithin v1 4) = true then (if (f_X11_isWithin v2 4) = true then Option.bind (f_X5_missesOf v1 v2 C) (fun r_25 => some r_25) else some (-2)) else some (-2))
/-! TenCoins.learnt.(I)I -/
def f_X11_learnt (v1 : Int32) (C : Mem) : Option (Int32 × Mem) :=
  (if (f_X11_isWithin v1 4) = true then (if v1 = 3 then Option.bind (f_X5_got C) (fun r_20 => some (r_20, C)) else (if v1 = 4 then Option.bind (f_X5_could C) (fun r_33 => some (r_33, C)) else (if 2 ≤ (C 40 2) then Option.bind (f_X5_learn C) (fun C_55 => (if v1 = 2 then some ((C_55 40 5), C_55) else (if v1 = 0 then some ((C_55 40 3), C_55) else some ((C_55 40 4), C_55)))) else some ((-3), C)))) else some ((-2), C))
/-! TenCoins.isForm.(I)Z -/
def f_X11_isForm (v0 : Int32) : Bool :=
  (f_X11_isWithin v0 2)
/-! TenCoins.sheet.(III)I -/
def f_X11_sheet (v1 : Int32) (v2 : Int32) (v3 : Int32) (C : Mem) : Option (Int32 × Mem) :=
  (if (f_X11_isSheet v1) = true then (if (f_X11_isForm v2) = true then (if v3 ≤ 48 then (if 0 ≤ v3 then Option.bind (f_X7_renew v1 v2 v3 C) (fun C_43 => some (v3, C_43)) else bnd2 (f_X7_found 5 C) (fun r_32 C_32 => some (r_32, C_32))) else some ((-2), C)) else some ((-2), C)) else some ((-2), C))
/-! TenCoins.lose.(I)I -/
def f_X11_lose (v1 : Int32) (C : Mem) : Option (Int32 × Mem) :=
  (if (f_X11_isSheet v1) = true then Option.bind (f_X7_isLost v1 C) (fun r_15 => (if r_15 = true then bnd2 (f_X7_found 1 C) (fun r_26 C_26 => some (r_26, C_26)) else bnd2 (f_X7_drop v1 C) (fun r_35 C_35 => some (r_35, C_35)))) else some ((-2), C))
/-! TenCoins.put.(IIII)I -/
def f_X11_put (v1 : Int32) (v2 : Int32) (v3 : Int32) (v4 : Int32) (C : Mem) : Option (Int32 × Mem) :=
  (if (f_X11_isSheet v1) = true then (if (f_X11_isForm v2) = true then Option.bind (f_X7_findingAt v1 v2 v3 C) (fun r_24 => (if r_24 = 0 then Option.bind (f_X7_keep v1 v3 v4 C) (fun C_52 => some (1, C_52)) else bnd2 (f_X7_found r_24 C) (fun r_40 C_40 => some (r_40, C_40)))) else some ((-2), C)) else some ((-2), C))
/-! TenCoins.get.(III)I -/
def f_X11_get (v1 : Int32) (v2 : Int32) (v3 : Int32) (C : Mem) : Option (Int32 × Mem) :=
  (if (f_X11_isSheet v1) = true then (if (f_X11_isForm v2) = true then Option.bind (f_X7_findingAt v1 v2 v3 C) (fun r_25 => (if r_25 = 0 then Option.bind (f_X7_item v1 v3 C) (fun r_55 => some (r_55, C)) else bnd2 (f_X7_found r_25 C) (fun r_41 C_41 => some ((-2147483648), C_41)))) else some ((-2147483648), C)) else some ((-2147483648), C))
/-! TenCoins.copy.(IIIII)I -/
def B_X11_copy_39 (C : Mem) : Option (Int32 × Mem) :=
  bnd2 (f_X7_found 1 C) (fun r_44 C_44 => some (r_44, C_44))
def B_X11_copy_105 (C : Mem) : Option (Int32 × Mem) :=
  bnd2 (f_X7_found 2 C) (fun r_110 C_110 => some (r_110, C_110))
def f_X11_copy (v1 : Int32) (v2 : Int32) (v3 : Int32) (v4 : Int32) (v5 : Int32) (C : Mem) : Option (Int32 × Mem) :=
  (if (f_X11_isSheet v1) = true then (if (f_X11_isSheet v3) = true then Option.bind (f_X7_isLost v1 C) (fun r_22 => (if r_22 = true then (B_X11_copy_39 C) else Option.bind (f_X7_isLost v3 C) (fun r_33 => (if r_33 = true then (B_X11_copy_39 C) else Option.bind (f_X7_formOf v1 C) (fun r_53 => Option.bind (f_X7_formOf v3 C) (fun r_61 => (if r_53 = r_61 then Option.bind (f_X7_hasSpan v1 v2 v5 C) (fun r_84 => (if r_84 = true then Option.bind (f_X7_hasSpan v3 v4 v5 C) (fun r_99 => (if r_99 = true then Option.bind (f_X7_move v1 v2 v3 v4 v5 C) (fun C_125 => some (1, C_125)) else (B_X11_copy_105 C))) else (B_X11_copy_105 C))) else bnd2 (f_X7_found 4 C) (fun r_72 C_72 => some (r_72, C_72))))))))) else some ((-2), C)) else some ((-2), C))
/-! TenCoins.write.(III)I -/
def B_X11_write_128 (v5 : Int32) (v6 : Int32) (C : Mem) (kb : Int32 → Int32 → Mem → Option (Int32 × Mem)) : Option (Int32 × Mem) :=
  lt_ (v6 + 1) (fun v6_128 => kb v5 v6_128 C)
def L_X11_write_60 (v1 : Int32) (v2 : Int32) (v3 : Int32) (v4 : Int32) (kx : Int32 → Mem → Option (Int32 × Mem)) : Nat → Int32 → Int32 → Mem → Option (Int32 × Mem)
  | 0, _, _, _ => none
  | n_ + 1, v5, v6, C =>
    (if (C 1 6) ≤ v6 then kx v5 C else (if v4 ≤ v5 then kx v5 C else Option.bind (f_X4_isOf v6 v1 v2 C) (fun r_87 => (if r_87 = true then Option.bind (f_X4_counts v6 C) (fun r_99 => (if r_99 = true then gd (inb v6 60) (Option.bind (f_X7_keep v3 v5 (C 4 v6.toNatClampNeg) C) (fun C_122 => lt_ (v5 + 1) (fun v5_125 => (B_X11_write_128 v5_125 v6 C_122 (L_X11_write_60 v1 v2 v3 v4 kx n_))))) else (B_X11_write_128 v5 v6 C (L_X11_write_60 v1 v2 v3 v4 kx n_)))) else (B_X11_write_128 v5 v6 C (L_X11_write_60 v1 v2 v3 v4 kx n_))))))
def f_X11_write (v1 : Int32) (v2 : Int32) (v3 : Int32) (C : Mem) : Option (Int32 × Mem) :=
  (if (f_X11_isPeopleOrAll v1) = true then (if (f_X11_isKind v2) = true then (if (f_X11_isSheet v3) = true then Option.bind (f_X7_isLost v3 C) (fun r_29 => (if r_29 = true then bnd2 (f_X7_found 1 C) (fun r_40 C_40 => some (r_40, C_40)) else Option.bind (f_X7_sizeOf v3 C) (fun r_49 => (L_X11_write_60 v1 v2 v3 r_49 (fun (v5_134 : Int32) (C_134 : Mem) => some (v5_134, C_134)) FU 0 0 C)))) else some ((-2), C)) else some ((-2), C)) else some ((-2), C))
/-! TenCoins.count.(I)I -/
def f_X11_count (v1 : Int32) (C : Mem) : Option Int32 :=
  (if v1 = 0 then some (C 1 6) else (if v1 = 1 then Option.bind (f_X4_howManyCount C) (fun r_64 => some r_64) else (if v1 = 2 then some (C 14 3) else (if v1 = 3 then some (C 18 3) else (if v1 = 4 then some (C 22 7) else (if v1 = 5 then some (C 36 1) else (if v1 = 6 then some (C 40 2) else (if v1 = 7 then some (C 1 8) else (if v1 = 8 then some (C 43 3) else some (-2))))))))))
/-! TenCoins.mix.(JJ)J -/
def f_X11_mix (v0 : Int64) (v2 : Int64) : Int64 :=
  ((31 * v0) + v2)
/-! TenCoins.mixPairs.(J)J -/
def L_X11_mixPairs_14 (v5 : Int32) (kx : Int64 → Mem → Option (Int64 × Mem)) : Nat → Int64 → Int32 → Mem → Option (Int64 × Mem)
  | 0, _, _, _ => none
  | n_ + 1, v3, v6, C =>
    (if 4 ≤ v6 then kx v3 C else bnd2 (f_X11_many v5 v6 0 C) (fun r_27 C_27 => lt_ (f_X11_mix v3 (r_27.toInt64)) (fun v3_34 => bnd2 (f_X11_many v5 v6 1 C_27) (fun r_42 C_42 => lt_ (f_X11_mix v3_34 (r_42.toInt64)) (fun v3_49 => lt_ (v6 + 1) (fun v6_50 => L_X11_mixPairs_14 v5 kx n_ v3_49 v6_50 C_42))))))
def L_X11_mixPairs_5 (kx : Int64 → Mem → Option (Int64 × Mem)) : Nat → Int64 → Int32 → Mem → Option (Int64 × Mem)
  | 0, _, _, _ => none
  | n_ + 1, v3, v5, C =>
    (if 4 ≤ v5 then kx v3 C else (L_X11_mixPairs_14 v5 (fun (v3_56 : Int64) (C_56 : Mem) => lt_ (v5 + 1) (fun v5_56 => L_X11_mixPairs_5 kx n_ v3_56 v5_56 C_56)) FU v3 0 C))
def f_X11_mixPairs (v1 : Int64) (C : Mem) : Option (Int64 × Mem) :=
  (L_X11_mixPairs_5 (fun (v3_62 : Int64) (C_62 : Mem) => bnd2 (f_X11_mean (-1) 0 0 C_62) (fun r_67 C_67 => lt_ (f_X11_mix v3_62 r_67) (fun v3_73 => bnd2 (f_X11_mean (-1) 0 1 C_67) (fun r_79 C_79 => some ((f_X11_mix v3_73 r_79), C_79))))) FU v1 (-1) C)
/-! TenCoins.mixRowsAndBeliefs.(J)J -/
def L_X11_mixRowsAndBeliefs_29 (v5 : Int32) (kx : Int64 → Mem → Option (Int64 × Mem)) : Nat → Int64 → Int32 → Mem → Option (Int64 × Mem)
  | 0, _, _, _ => none
  | n_ + 1, v3, v6, C =>
    (if 2 < v6 then kx v3 C else bnd2 (f_X11_line v5 v6 C) (fun r_41 C_41 => lt_ (f_X11_mix v3 (r_41.toInt64)) (fun v3_48 => lt_ (v6 + 1) (fun v6_49 => L_X11_mixRowsAndBeliefs_29 v5 kx n_ v3_48 v6_49 C_41))))
def L_X11_mixRowsAndBeliefs_14 (kx : Int64 → Mem → Option (Int64 × Mem)) : Nat → Int64 → Int32 → Mem → Option (Int64 × Mem)
  | 0, _, _, _ => none
  | n_ + 1, v3, v5, C =>
    (if (C 14 3) ≤ v5 then kx v3 C else (L_X11_mixRowsAndBeliefs_29 v5 (fun (v3_55 : Int64) (C_55 : Mem) => lt_ (v5 + 1) (fun v5_55 => L_X11_mixRowsAndBeliefs_14 kx n_ v3_55 v5_55 C_55)) FU v3 0 C))
def L_X11_mixRowsAndBeliefs_64 (kx : Int64 → Mem → Option (Int64 × Mem)) : Nat → Int64 → Int32 → Mem → Option (Int64 × Mem)
  | 0, _, _, _ => none
  | n_ + 1, v3, v5, C =>
    (if (C 18 3) ≤ v5 then kx v3 C else bnd2 (f_X11_hisBest v5 C) (fun r_80 C_80 => lt_ (f_X11_mix v3 (r_80.toInt64)) (fun v3_87 => lt_ (v5 + 1) (fun v5_88 => L_X11_mixRowsAndBeliefs_64 kx n_ v3_87 v5_88 C_80))))
def f_X11_mixRowsAndBeliefs (v1 : Int64) (C : Mem) : Option (Int64 × Mem) :=
  bnd2 (f_X11_best (-1) C) (fun r_3 C_3 => lt_ (f_X11_mix v1 (r_3.toInt64)) (fun v3_10 => (L_X11_mixRowsAndBeliefs_14 (fun (v3_61 : Int64) (C_61 : Mem) => (L_X11_mixRowsAndBeliefs_64 (fun (v3_94 : Int64) (C_94 : Mem) => some (v3_94, C_94)) FU v3_61 0 C_61)) FU v3_10 0 C_3)))
/-! TenCoins.mixGame.(J)J -/
def L_X11_mixGame_5 (kx : Int64 → Mem → Option (Int64 × Mem)) : Nat → Int64 → Int32 → Mem → Option (Int64 × Mem)
  | 0, _, _, _ => none
  | n_ + 1, v3, v5, C =>
    (if 5 < v5 then kx v3 C else bnd2 (f_X11_reckon 0 v5 C) (fun r_16 C_16 => lt_ (f_X11_mix v3 (r_16.toInt64)) (fun v3_23 => lt_ (v5 + 1) (fun v5_24 => L_X11_mixGame_5 kx n_ v3_23 v5_24 C_16))))
def L_X11_mixGame_33 (kx : Int64 → Mem → Option (Int64 × Mem)) : Nat → Int64 → Int32 → Mem → Option (Int64 × Mem)
  | 0, _, _, _ => none
  | n_ + 1, v3, v5, C =>
    (if 2 < v5 then kx v3 C else bnd2 (f_X11_reckon 4 v5 C) (fun r_44 C_44 => lt_ (f_X11_mix v3 (r_44.toInt64)) (fun v3_51 => lt_ (v5 + 1) (fun v5_52 => L_X11_mixGame_33 kx n_ v3_51 v5_52 C_44))))
def f_X11_mixGame (v1 : Int64) (C : Mem) : Option (Int64 × Mem) :=
  (L_X11_mixGame_5 (fun (v3_30 : Int64) (C_30 : Mem) => (L_X11_mixGame_33 (fun (v3_58 : Int64) (C_58 : Mem) => bnd2 (f_X11_temper C_58) (fun r_60 C_60 => some ((f_X11_mix v3_58 (r_60.toInt64)), C_60))) FU v3_30 0 C_30)) FU v1 0 C)
/-! TenCoins.digest.()J -/
def L_X11_digest_6 (C : Mem) (kx : Int64 → Option (Int64 × Mem)) : Nat → Int64 → Int32 → Option (Int64 × Mem)
  | 0, _, _ => none
  | n_ + 1, v1, v3 =>
    (if 7 < v3 then kx v1 else Option.bind (f_X11_count v3 C) (fun r_15 => lt_ (f_X11_mix v1 (r_15.toInt64)) (fun v1_22 => lt_ (v3 + 1) (fun v3_23 => L_X11_digest_6 C kx n_ v1_22 v3_23))))
def L_X11_digest_59 (kx : Int64 → Mem → Option (Int64 × Mem)) : Nat → Int64 → Int32 → Mem → Option (Int64 × Mem)
  | 0, _, _, _ => none
  | n_ + 1, v1, v3, C =>
    (if (C 36 1) ≤ v3 then kx v1 C else bnd2 (f_X11_goes v3 C) (fun r_73 C_73 => lt_ (f_X11_mix v1 (r_73.toInt64)) (fun v1_80 => lt_ (v3 + 1) (fun v3_81 => L_X11_digest_59 kx n_ v1_80 v3_81 C_73))))
def L_X11_digest_99 (kx : Int64 → Mem → Option (Int64 × Mem)) : Nat → Int64 → Int32 → Mem → Option (Int64 × Mem)
  | 0, _, _, _ => none
  | n_ + 1, v1, v3, C =>
    (if 4 < v3 then kx v1 C else bnd2 (f_X11_learnt v3 C) (fun r_107 C_107 => lt_ (f_X11_mix v1 (r_107.toInt64)) (fun v1_114 => lt_ (v3 + 1) (fun v3_115 => L_X11_digest_99 kx n_ v1_114 v3_115 C_107))))
def f_X11_digest (C : Mem) : Option (Int64 × Mem) :=
  (L_X11_digest_6 C (fun (v1_29 : Int64) => lt_ (f_X11_mix v1_29 ((f_X11_fault C).toInt64)) (fun v1_38 => bnd2 (f_X11_mixPairs v1_38 C) (fun r_41 C_41 => bnd2 (f_X11_mixRowsAndBeliefs r_41 C_41) (fun r_47 C_47 => bnd2 (f_X11_mixGame r_47 C_47) (fun r_53 C_53 => (L_X11_digest_59 (fun (v1_87 : Int64) (C_87 : Mem) => bnd2 (f_X11_looked C_87) (fun r_89 C_89 => lt_ (f_X11_mix v1_87 (r_89.toInt64)) (fun v1_96 => (L_X11_digest_99 (fun (v1_121 : Int64) (C_121 : Mem) => some (v1_121, C_121)) FU v1_96 0 C_89)))) FU r_53 0 C_53)))))) FU 17 0)
/-! TenCoinsModel.in.(III)Z -/
def f_X12_in (v0 : Int32) (v1 : Int32) (v2 : Int32) : Bool :=
  (if v0 < v1 then false else (if v2 < v0 then false else true))
/-! TenCoinsModel.amount.(I)I -/
def f_X12_amount (v0 : Int32) : Int32 :=
  (if 0 ≤ v0 then v0 else (-v0))
/-! TenCoinsModel.ones.(I)I -/
def L_X12_ones_4 (v0 : Int32) (kx : Int32 → Option Int32) : Nat → Int32 → Int32 → Option Int32
  | 0, _, _ => none
  | n_ + 1, v1, v2 =>
    (if 14 ≤ v2 then kx v1 else lt_ (v1 + ((v0 >>> (v2 &&& 31)) &&& 1)) (fun v1_17 => lt_ (v2 + 1) (fun v2_18 => L_X12_ones_4 v0 kx n_ v1_17 v2_18)))
def f_X12_ones (v0 : Int32) : Option Int32 :=
  (L_X12_ones_4 v0 (fun (v1_24 : Int32) => some v1_24) FU 0 0)
/-! TenCoinsModel.has.(II)Z -/
def f_X12_has (v0 : Int32) (v1 : Int32) : Bool :=
  (if ((v0 >>> (v1 &&& 31)) &&& 1) = 1 then true else false)
/-! TenCoinsModel.no.(I)J -/
def f_X12_no (v0 : Int32) : Int64 :=
  ((-9223372036854775808) - (v0.toInt64))
/-! TenCoinsModel.lowest.(JJI)J -/
def L_X12_lowest_17 (kx : Int64 → Option Int64) : Nat → Int64 → Int64 → Option Int64
  | 0, _, _ => none
  | n_ + 1, v5, v7 =>
    (if (lg_cmp v7 0) = 0 then kx v5 else gd (decide (¬ v7 = 0)) (lt_ (v5 - v5 / v7 * v7) (fun v9_29 => L_X12_lowest_17 kx n_ v7 v9_29)))
def B_X12_lowest_12 (x0 : Int64) (v0 : Int64) (v2 : Int64) (v4 : Int32) : Option Int64 :=
  (L_X12_lowest_17 (fun (v5_42 : Int64) => (if v4 = 0 then gd (decide (¬ v5_42 = 0)) (some (v0 / v5_42)) else gd (decide (¬ v5_42 = 0)) (some (v2 / v5_42)))) FU x0 v2)
def f_X12_lowest (v0 : Int64) (v2 : Int64) (v4 : Int32) : Option Int64 :=
  (if 0 ≤ (lg_cmp v0 0) then (B_X12_lowest_12 v0 v0 v2 v4) else (B_X12_lowest_12 (-v0) v0 v2 v4))
/-! TenCoinsModel.isPeople.(I)Z -/
def f_X12_isPeople (v0 : Int32) : Bool :=
  (f_X12_in v0 0 3)
/-! TenCoinsModel.isAny.(I)Z -/
def f_X12_isAny (v0 : Int32) : Bool :=
  (f_X12_in v0 (-1) 3)
/-! TenCoinsModel.isKind.(I)Z -/
def f_X12_isKind (v0 : Int32) : Bool :=
  (f_X12_in v0 0 3)
/-! TenCoinsModel.isOffer.(I)Z -/
def f_X12_isOffer (v0 : Int32) : Bool :=
  (f_X12_in v0 0 10)
/-! TenCoinsModel.pairMore.(IIIII)I -/
def B_X12_pairMore_33 (x0 : Int32) (x1 : Int32) (v1 : Int32) (v2 : Int32) (v3 : Int32) (v4 : Int32) (v5 : Int32) (D : Mem) : Option (Int32 × Mem) :=
  (if (f_X12_in x0 x1 1) = true then (if (f_X12_in v5 (D 0 7) 999) = true then (if (D 0 0) = 60 then some ((-4), D) else gd (inb (D 0 0) 60) (sto D 1 (D 0 0).toNatClampNeg v1 (fun D_79 => gd (inb (D_79 0 0) 60) (sto D_79 2 (D_79 0 0).toNatClampNeg v2 (fun D_89 => gd (inb (D_89 0 0) 60) (sto D_89 3 (D_89 0 0).toNatClampNeg v3 (fun D_99 => gd (inb (D_99 0 0) 60) (sto D_99 4 (D_99 0 0).toNatClampNeg v4 (fun D_110 => gd (inb (D_110 0 0) 60) (sto D_110 5 (D_110 0 0).toNatClampNeg v5 (fun D_121 => gd (inb (D_121 0 0) 60) (sto D_121 6 (D_121 0 0).toNatClampNeg (-1) (fun D_131 => sto D_131 0 7 v5 (fun D_135 => sto D_135 0 0 ((D_135 0 0) + 1) (fun D_145 => some (((D_145 0 0) - 1), D_145)))))))))))))))) else some ((-2), D)) else some ((-2), D))
def f_X12_pairMore (v1 : Int32) (v2 : Int32) (v3 : Int32) (v4 : Int32) (v5 : Int32) (D : Mem) : Option (Int32 × Mem) :=
  (if (f_X12_isPeople v1) = true then (if (f_X12_isKind v2) = true then (if (f_X12_isOffer v3) = true then (if v2 = 1 then (B_X12_pairMore_33 v4 1 v1 v2 v3 v4 v5 D) else (B_X12_pairMore_33 v4 0 v1 v2 v3 v4 v5 D)) else some ((-2), D)) else some ((-2), D)) else some ((-2), D))
/-! TenCoinsModel.pair.(IIIII)I -/
def f_X12_pair (v1 : Int32) (v2 : Int32) (v3 : Int32) (v4 : Int32) (v5 : Int32) (D : Mem) : Option (Int32 × Mem) :=
  bnd2 (f_X12_pairMore v1 v2 v3 v4 v5 D) (fun r_8 D_8 => some (r_8, D_8))
/-! TenCoinsModel.isSheet.(I)Z -/
def f_X12_isSheet (v0 : Int32) : Bool :=
  (f_X12_in v0 0 3)
/-! TenCoinsModel.meets.(I)I -/
def f_X12_meets (v1 : Int32) (D : Mem) : Option (Int32 × Mem) :=
  sto D 0 40 v1 (fun D_2 => some (((-10) - v1), D_2))
/-! TenCoinsModel.read.(IIII)I -/
def L_X12_read_57 (v1 : Int32) (v2 : Int32) (v3 : Int32) (v4 : Int32) (kx : Int32 → Mem → Option (Int32 × Mem)) : Nat → Int32 → Mem → Option (Int32 × Mem)
  | 0, _, _ => none
  | n_ + 1, v5, D =>
    gd (inb v1 4) ((if (D 28 v1.toNatClampNeg) ≤ ((2 * v5) + 1) then kx v5 D else gd (inb ((48 * v1) + (2 * v5)) 192) (gd (inb (((48 * v1) + (2 * v5)) + 1) 192) (bnd2 (f_X12_pairMore v2 v3 (D 29 ((48 * v1) + (2 * v5)).toNatClampNeg) (D 29 (((48 * v1) + (2 * v5)) + 1).toNatClampNeg) v4 D) (fun r_107 D_107 => (if 0 ≤ r_107 then lt_ (v5 + 1) (fun v5_116 => L_X12_read_57 v1 v2 v3 v4 kx n_ v5_116 D_107) else some (v5, D_107)))))))
def f_X12_read (v1 : Int32) (v2 : Int32) (v3 : Int32) (v4 : Int32) (D : Mem) : Option (Int32 × Mem) :=
  (if (f_X12_isSheet v1) = true then (if (f_X12_isPeople v2) = true then (if (f_X12_isKind v3) = true then (if (f_X12_in v4 (D 0 7) 999) = true then gd (inb v1 4) ((if (D 26 v1.toNatClampNeg) = 0 then bnd2 (f_X12_meets 1 D) (fun r_50 D_50 => some (r_50, D_50)) else (L_X12_read_57 v1 v2 v3 v4 (fun (v5_122 : Int32) (D_122 : Mem) => some (v5_122, D_122)) FU 0 D))) else some ((-2), D)) else some ((-2), D)) else some ((-2), D)) else some ((-2), D))
/-! TenCoinsModel.takeBack.(II)I -/
def f_X12_takeBack (v1 : Int32) (v2 : Int32) (D : Mem) : Option (Int32 × Mem) :=
  (if (f_X12_in v1 0 ((D 0 0) - 1)) = true then (if (f_X12_in v2 (D 0 7) 999) = true then gd (inb v1 60) ((if (D 6 v1.toNatClampNeg) = (-1) then gd (inb v1 60) (sto D 6 v1.toNatClampNeg v2 (fun D_50 => sto D_50 0 7 v2 (fun D_53 => some (1, D_53)))) else some ((-3), D))) else some ((-2), D)) else some ((-2), D))
/-! TenCoinsModel.asOf.(I)I -/
def f_X12_asOf (v1 : Int32) (D : Mem) : Option (Int32 × Mem) :=
  (if (f_X12_in v1 0 999) = true then lt_ (D 0 8) (fun v2_18 => sto D 0 8 v1 (fun D_21 => some (v2_18, D_21))) else some ((-2), D))
/-! TenCoinsModel.counts.(I)Z -/
def B_X12_counts_36 : Option Bool :=
  some true
def f_X12_counts (v1 : Int32) (D : Mem) : Option Bool :=
  gd (inb v1 60) ((if (D 0 8) < (D 5 v1.toNatClampNeg) then some false else gd (inb v1 60) ((if (D 6 v1.toNatClampNeg) = (-1) then B_X12_counts_36 else gd (inb v1 60) ((if (D 6 v1.toNatClampNeg) ≤ (D 0 8) then some false else B_X12_counts_36))))))
/-! TenCoinsModel.isOf.(III)Z -/
def B_X12_isOf_23 (v1 : Int32) (v3 : Int32) (D : Mem) : Option Bool :=
  gd (inb v1 60) ((if (D 2 v1.toNatClampNeg) = v3 then some true else some false))
def f_X12_isOf (v1 : Int32) (v2 : Int32) (v3 : Int32) (D : Mem) : Option Bool :=
  Option.bind (f_X12_counts v1 D) (fun r_2 => (if r_2 = true then (if v2 = (-1) then (B_X12_isOf_23 v1 v3 D) else gd (inb v1 60) ((if (D 1 v1.toNatClampNeg) = v2 then (B_X12_isOf_23 v1 v3 D) else some false))) else some false))
/-! TenCoinsModel.countOf.(II)I -/
def B_X12_countOf_31 (x0 : Int32) (x1 : Int32) (v4 : Int32) (kb : Int32 → Int32 → Option Int32) : Option Int32 :=
  lt_ (x0 + x1) (fun v3_32 => lt_ (v4 + 1) (fun v4_33 => kb v3_32 v4_33))
def L_X12_countOf_5 (v1 : Int32) (v2 : Int32) (D : Mem) (kx : Int32 → Option Int32) : Nat → Int32 → Int32 → Option Int32
  | 0, _, _ => none
  | n_ + 1, v3, v4 =>
    (if (D 0 0) ≤ v4 then kx v3 else Option.bind (f_X12_isOf v4 v1 v2 D) (fun r_20 => (if r_20 = true then (B_X12_countOf_31 v3 1 v4 (L_X12_countOf_5 v1 v2 D kx n_)) else (B_X12_countOf_31 v3 0 v4 (L_X12_countOf_5 v1 v2 D kx n_)))))
def f_X12_countOf (v1 : Int32) (v2 : Int32) (D : Mem) : Option Int32 :=
  (L_X12_countOf_5 v1 v2 D (fun (v3_39 : Int32) => some v3_39) FU 0 0)
/-! TenCoinsModel.sumOf.(II)I -/
def B_X12_sumOf_37 (x0 : Int32) (x1 : Int32) (v4 : Int32) (kb : Int32 → Int32 → Option Int32) : Option Int32 :=
  lt_ (x0 + x1) (fun v3_38 => lt_ (v4 + 1) (fun v4_39 => kb v3_38 v4_39))
def L_X12_sumOf_5 (v1 : Int32) (v2 : Int32) (D : Mem) (kx : Int32 → Option Int32) : Nat → Int32 → Int32 → Option Int32
  | 0, _, _ => none
  | n_ + 1, v3, v4 =>
    (if (D 0 0) ≤ v4 then kx v3 else Option.bind (f_X12_isOf v4 v1 v2 D) (fun r_20 => (if r_20 = true then gd (inb v4 60) ((B_X12_sumOf_37 v3 (D 3 v4.toNatClampNeg) v4 (L_X12_sumOf_5 v1 v2 D kx n_))) else (B_X12_sumOf_37 v3 0 v4 (L_X12_sumOf_5 v1 v2 D kx n_)))))
def f_X12_sumOf (v1 : Int32) (v2 : Int32) (D : Mem) : Option Int32 :=
  (L_X12_sumOf_5 v1 v2 D (fun (v3_45 : Int32) => some v3_45) FU 0 0)
/-! TenCoinsModel.noesOf.(II)I -/
def B_X12_noesOf_39 (x0 : Int32) (x1 : Int32) (v4 : Int32) (kb : Int32 → Int32 → Option Int32) : Option Int32 :=
  lt_ (x0 + x1) (fun v3_40 => lt_ (v4 + 1) (fun v4_41 => kb v3_40 v4_41))
def L_X12_noesOf_5 (v1 : Int32) (v2 : Int32) (D : Mem) (kx : Int32 → Option Int32) : Nat → Int32 → Int32 → Option Int32
  | 0, _, _ => none
  | n_ + 1, v3, v4 =>
    (if (D 0 0) ≤ v4 then kx v3 else Option.bind (f_X12_isOf v4 v1 v2 D) (fun r_20 => (if r_20 = true then gd (inb v4 60) ((B_X12_noesOf_39 v3 (1 - (D 4 v4.toNatClampNeg)) v4 (L_X12_noesOf_5 v1 v2 D kx n_))) else (B_X12_noesOf_39 v3 0 v4 (L_X12_noesOf_5 v1 v2 D kx n_)))))
def f_X12_noesOf (v1 : Int32) (v2 : Int32) (D : Mem) : Option Int32 :=
  (L_X12_noesOf_5 v1 v2 D (fun (v3_47 : Int32) => some v3_47) FU 0 0)
/-! TenCoinsModel.middleOf.(II)I -/
def B_X12_middleOf_66 (x0 : Int32) (x1 : Int32) (v5 : Int32) (kb : Int32 → Int32 → Option Int32) : Option Int32 :=
  lt_ (x0 - x1) (fun v3_67 => lt_ (v5 + 1) (fun v5_68 => kb v3_67 v5_68))
def B_X12_middleOf_65 (x0 : Int32) (v5 : Int32) (kb : Int32 → Int32 → Option Int32) : Option Int32 :=
  (B_X12_middleOf_66 x0 0 v5 kb)
def L_X12_middleOf_28 (v1 : Int32) (v2 : Int32) (v4 : Int32) (D : Mem) (kx : Int32 → Option Int32) : Nat → Int32 → Int32 → Option Int32
  | 0, _, _ => none
  | n_ + 1, v3, v5 =>
    (if (D 0 0) ≤ v5 then kx v3 else Option.bind (f_X12_isOf v5 v1 v2 D) (fun r_43 => (if r_43 = true then gd (inb v5 60) ((if (D 3 v5.toNatClampNeg) = v4 then (B_X12_middleOf_66 v3 1 v5 (L_X12_middleOf_28 v1 v2 v4 D kx n_)) else (B_X12_middleOf_65 v3 v5 (L_X12_middleOf_28 v1 v2 v4 D kx n_)))) else (B_X12_middleOf_65 v3 v5 (L_X12_middleOf_28 v1 v2 v4 D kx n_)))))
def L_X12_middleOf_14 (v1 : Int32) (v2 : Int32) (D : Mem) (kx : Option Int32) : Nat → Int32 → Int32 → Option Int32
  | 0, _, _ => none
  | n_ + 1, v3, v4 =>
    (if 11 ≤ v4 then kx else (if v3 ≤ 0 then kx else (L_X12_middleOf_28 v1 v2 v4 D (fun (v3_74 : Int32) => (if 0 < v3_74 then lt_ (v4 + 1) (fun v4_81 => L_X12_middleOf_14 v1 v2 D kx n_ v3_74 v4_81) else some v4)) FU v3 0)))
def f_X12_middleOf (v1 : Int32) (v2 : Int32) (D : Mem) : Option Int32 :=
  Option.bind (f_X12_countOf v1 v2 D) (fun r_3 => lt_ ((r_3 + 1) / 2) (fun v3_10 => (L_X12_middleOf_14 v1 v2 D (some (-3)) FU v3_10 0)))
/-! TenCoinsModel.manyNow.(III)I -/
def f_X12_manyNow (v1 : Int32) (v2 : Int32) (v3 : Int32) (D : Mem) : Option Int32 :=
  (if v3 = 0 then Option.bind (f_X12_countOf v1 v2 D) (fun r_7 => some r_7) else (if v3 = 1 then Option.bind (f_X12_noesOf v1 v2 D) (fun r_21 => some r_21) else Option.bind (f_X12_middleOf v1 v2 D) (fun r_30 => some r_30)))
/-! TenCoinsModel.many.(III)I -/
def f_X12_many (v1 : Int32) (v2 : Int32) (v3 : Int32) (D : Mem) : Option Int32 :=
  (if (f_X12_isAny v1) = true then (if (f_X12_isKind v2) = true then (if (f_X12_in v3 0 2) = true then Option.bind (f_X12_manyNow v1 v2 v3 D) (fun r_27 => some r_27) else some (-2)) else some (-2)) else some (-2))
/-! TenCoinsModel.meanNow.(III)J -/
def f_X12_meanNow (v1 : Int32) (v2 : Int32) (v3 : Int32) (D : Mem) : Option Int64 :=
  Option.bind (f_X12_countOf v1 v2 D) (fun r_3 => (if r_3 = 0 then some (f_X12_no (-3)) else Option.bind (f_X12_sumOf v1 v2 D) (fun r_24 => Option.bind (f_X12_lowest (r_24.toInt64) (r_3.toInt64) v3) (fun r_32 => some r_32))))
/-! TenCoinsModel.mean.(III)J -/
def B_X12_mean_33 : Option Int64 :=
  some (f_X12_no (-2))
def f_X12_mean (v1 : Int32) (v2 : Int32) (v3 : Int32) (D : Mem) : Option Int64 :=
  (if (f_X12_isAny v1) = true then (if (f_X12_isKind v2) = true then (if (f_X12_in v3 0 1) = true then Option.bind (f_X12_meanNow v1 v2 v3 D) (fun r_27 => some r_27) else B_X12_mean_33) else B_X12_mean_33) else B_X12_mean_33)
/-! TenCoinsModel.refused.(IIII)J -/
def B_X12_refused_31 : Option Int64 :=
  some (f_X12_no (-2))
def B_X12_refused_119 (x0 : Int32) (x1 : Int32) (v5 : Int32) (v7 : Int32) (kb : Int32 → Int32 → Int32 → Option Int64) : Option Int64 :=
  lt_ (x0 + x1) (fun v6_120 => lt_ (v7 + 1) (fun v7_122 => kb v5 v6_120 v7_122))
def B_X12_refused_96 (x0 : Int32) (x1 : Int32) (v6 : Int32) (v7 : Int32) (v8 : Int32) (D : Mem) (kb : Int32 → Int32 → Int32 → Option Int64) : Option Int64 :=
  lt_ (x0 + x1) (fun v5_97 => (if v8 = 0 then (B_X12_refused_119 v6 0 v5_97 v7 kb) else gd (inb v7 60) ((B_X12_refused_119 v6 (1 - (D 4 v7.toNatClampNeg)) v5_97 v7 kb))))
def B_X12_refused_82 (x0 : Int32) (v5 : Int32) (v6 : Int32) (v7 : Int32) (D : Mem) (kb : Int32 → Int32 → Int32 → Option Int64) : Option Int64 :=
  (if x0 = 0 then (B_X12_refused_96 v5 0 v6 v7 x0 D kb) else (B_X12_refused_96 v5 1 v6 v7 x0 D kb))
def B_X12_refused_81 (v5 : Int32) (v6 : Int32) (v7 : Int32) (D : Mem) (kb : Int32 → Int32 → Int32 → Option Int64) : Option Int64 :=
  (B_X12_refused_82 0 v5 v6 v7 D kb)
def L_X12_refused_46 (v1 : Int32) (v2 : Int32) (v3 : Int32) (D : Mem) (kx : Int32 → Int32 → Option Int64) : Nat → Int32 → Int32 → Int32 → Option Int64
  | 0, _, _, _ => none
  | n_ + 1, v5, v6, v7 =>
    (if (D 0 0) ≤ v7 then kx v5 v6 else Option.bind (f_X12_isOf v7 v1 v2 D) (fun r_60 => (if r_60 = true then gd (inb v7 60) ((if (D 3 v7.toNatClampNeg) = v3 then (B_X12_refused_82 1 v5 v6 v7 D (L_X12_refused_46 v1 v2 v3 D kx n_)) else (B_X12_refused_81 v5 v6 v7 D (L_X12_refused_46 v1 v2 v3 D kx n_)))) else (B_X12_refused_81 v5 v6 v7 D (L_X12_refused_46 v1 v2 v3 D kx n_)))))
def f_X12_refused (v1 : Int32) (v2 : Int32) (v3 : Int32) (v4 : Int32) (D : Mem) : Option Int64 :=
  (if (f_X12_isAny v1) = true then (if (f_X12_isKind v2) = true then (if (f_X12_isOffer v3) = true then (if (f_X12_in v4 0 1) = true then (L_X12_refused_46 v1 v2 v3 D (fun (v5_128 : Int32) (v6_128 : Int32) => (if v5_128 = 0 then some (f_X12_no (-3)) else Option.bind (f_X12_lowest (v6_128.toInt64) (v5_128.toInt64) v4) (fun r_149 => some r_149))) FU 0 0 0) else B_X12_refused_31) else B_X12_refused_31) else B_X12_refused_31) else B_X12_refused_31)
/-! TenCoinsModel.moves.(III)J -/
def B_X12_moves_25 : Option Int64 :=
  some (f_X12_no (-2))
def B_X12_moves_97 : Option Int64 :=
  some (f_X12_no (-3))
def B_X12_moves_153 (x0 : Int64) (v3 : Int32) (v6 : Int64) (v8 : Int64) (v10 : Int64) : Option Int64 :=
  Option.bind (f_X12_lowest ((v10 * v8) - (x0 * v6)) (v6 * v8) v3) (fun r_172 => some r_172)
def B_X12_moves_127 (x0 : Int64) (v1 : Int32) (v2 : Int32) (v3 : Int32) (v5 : Int32) (v6 : Int64) (v8 : Int64) (D : Mem) : Option Int64 :=
  (if v2 = 2 then Option.bind (f_X12_noesOf v1 v5 D) (fun r_138 => (B_X12_moves_153 (r_138.toInt64) v3 v6 v8 x0)) else Option.bind (f_X12_sumOf v1 v5 D) (fun r_149 => (B_X12_moves_153 (r_149.toInt64) v3 v6 v8 x0)))
def B_X12_moves_61 (x0 : Int32) (v1 : Int32) (v2 : Int32) (v3 : Int32) (v4 : Int32) (D : Mem) : Option Int64 :=
  Option.bind (f_X12_countOf v1 v4 D) (fun r_67 => lt_ (r_67.toInt64) (fun v6_71 => Option.bind (f_X12_countOf v1 x0 D) (fun r_77 => lt_ (r_77.toInt64) (fun v8_81 => (if (lg_cmp v6_71 0) = 0 then B_X12_moves_97 else (if (lg_cmp v8_81 0) = 0 then B_X12_moves_97 else (if v2 = 2 then Option.bind (f_X12_noesOf v1 v4 D) (fun r_112 => (B_X12_moves_127 (r_112.toInt64) v1 v2 v3 x0 v6_71 v8_81 D)) else Option.bind (f_X12_sumOf v1 v4 D) (fun r_123 => (B_X12_moves_127 (r_123.toInt64) v1 v2 v3 x0 v6_71 v8_81 D)))))))))
def B_X12_moves_41 (x0 : Int32) (v1 : Int32) (v2 : Int32) (v3 : Int32) (D : Mem) : Option Int64 :=
  (if v2 = 0 then (B_X12_moves_61 1 v1 v2 v3 x0 D) else (if v2 = 1 then (B_X12_moves_61 0 v1 v2 v3 x0 D) else (B_X12_moves_61 2 v1 v2 v3 x0 D)))
def f_X12_moves (v1 : Int32) (v2 : Int32) (v3 : Int32) (D : Mem) : Option Int64 :=
  (if (f_X12_isAny v1) = true then (if (f_X12_in v2 0 2) = true then (if (f_X12_in v3 0 1) = true then (if v2 = 1 then (B_X12_moves_41 3 v1 v2 v3 D) else (B_X12_moves_41 0 v1 v2 v3 D)) else B_X12_moves_25) else B_X12_moves_25) else B_X12_moves_25)
/-! TenCoinsModel.row.(II)I -/
def f_X12_row (v1 : Int32) (v2 : Int32) (D : Mem) : Option (Int32 × Mem) :=
  (if (f_X12_isPeople v1) = true then (if (f_X12_in v2 0 2047) = true then (if (D 0 9) = 12 then some ((-4), D) else gd (inb (D 0 9) 12) (sto D 7 (D 0 9).toNatClampNeg v1 (fun D_42 => gd (inb (D_42 0 9) 12) (sto D_42 8 (D_42 0 9).toNatClampNeg v2 (fun D_52 => sto D_52 0 9 ((D_52 0 9) + 1) (fun D_60 => some (((D_60 0 9) - 1), D_60))))))) else some ((-2), D)) else some ((-2), D))
/-! TenCoinsModel.lineNow.(II)I -/
def B_X12_lineNow_73 (x0 : Int32) (x1 : Int32) (v9 : Int32) (kb : Int32 → Int32 → Option Int32) : Option Int32 :=
  lt_ (x0 + x1) (fun v8_74 => lt_ (v9 + 1) (fun v9_76 => kb v8_74 v9_76))
def L_X12_lineNow_36 (v1 : Int32) (v6 : Int32) (v7 : Int32) (D : Mem) (kx : Int32 → Option Int32) : Nat → Int32 → Int32 → Option Int32
  | 0, _, _ => none
  | n_ + 1, v8, v9 =>
    (if 11 ≤ v9 then kx v8 else gd (inb v1 12) ((if (b2i (f_X12_has (D 8 v1.toNatClampNeg) v9)) = (b2i (f_X12_in v9 v6 v7)) then (B_X12_lineNow_73 v8 0 v9 (L_X12_lineNow_36 v1 v6 v7 D kx n_)) else (B_X12_lineNow_73 v8 1 v9 (L_X12_lineNow_36 v1 v6 v7 D kx n_)))))
def B_X12_lineNow_99 (v3 : Int32) (v4 : Int32) (v5 : Int32) (v7 : Int32) (kb : Int32 → Int32 → Int32 → Int32 → Option Int32) : Option Int32 :=
  lt_ (v7 + (-1)) (fun v7_99 => kb v3 v4 v5 v7_99)
def L_X12_lineNow_23 (v1 : Int32) (v6 : Int32) (D : Mem) (kx : Int32 → Int32 → Int32 → Option Int32) : Nat → Int32 → Int32 → Int32 → Int32 → Option Int32
  | 0, _, _, _, _ => none
  | n_ + 1, v3, v4, v5, v7 =>
    (if v7 < v6 then kx v3 v4 v5 else (L_X12_lineNow_36 v1 v6 v7 D (fun (v8_82 : Int32) => (if v3 ≤ v8_82 then (B_X12_lineNow_99 v3 v4 v5 v7 (L_X12_lineNow_23 v1 v6 D kx n_)) else (B_X12_lineNow_99 v8_82 v6 v7 v7 (L_X12_lineNow_23 v1 v6 D kx n_)))) FU 0 0))
def L_X12_lineNow_12 (v1 : Int32) (D : Mem) (kx : Int32 → Int32 → Int32 → Option Int32) : Nat → Int32 → Int32 → Int32 → Int32 → Option Int32
  | 0, _, _, _, _ => none
  | n_ + 1, v3, v4, v5, v6 =>
    (if 11 ≤ v6 then kx v3 v4 v5 else (L_X12_lineNow_23 v1 v6 D (fun (v3_105 : Int32) (v4_105 : Int32) (v5_105 : Int32) => lt_ (v6 + 1) (fun v6_105 => L_X12_lineNow_12 v1 D kx n_ v3_105 v4_105 v5_105 v6_105)) FU v3 v4 v5 10))
def f_X12_lineNow (v1 : Int32) (v2 : Int32) (D : Mem) : Option Int32 :=
  (L_X12_lineNow_12 v1 D (fun (v3_111 : Int32) (v4_111 : Int32) (v5_111 : Int32) => (if v2 = 0 then some v3_111 else (if v2 = 1 then some v4_111 else some v5_111))) FU 99 0 0 0)
/-! TenCoinsModel.line.(II)I -/
def f_X12_line (v1 : Int32) (v2 : Int32) (D : Mem) : Option Int32 :=
  (if (f_X12_in v1 0 ((D 0 9) - 1)) = true then (if (f_X12_in v2 0 2) = true then Option.bind (f_X12_lineNow v1 v2 D) (fun r_26 => some r_26) else some (-2)) else some (-2))
/-! TenCoinsModel.rowsOf.(I)I -/
def B_X12_rowsOf_33 (x0 : Int32) (x1 : Int32) (v3 : Int32) (kb : Int32 → Int32 → Option Int32) : Option Int32 :=
  lt_ (x0 + x1) (fun v2_34 => lt_ (v3 + 1) (fun v3_35 => kb v2_34 v3_35))
def B_X12_rowsOf_28 (x0 : Int32) (v3 : Int32) (kb : Int32 → Int32 → Option Int32) : Option Int32 :=
  (B_X12_rowsOf_33 x0 1 v3 kb)
def L_X12_rowsOf_4 (v1 : Int32) (D : Mem) (kx : Int32 → Option Int32) : Nat → Int32 → Int32 → Option Int32
  | 0, _, _ => none
  | n_ + 1, v2, v3 =>
    (if (D 0 9) ≤ v3 then kx v2 else (if v1 = (-1) then (B_X12_rowsOf_28 v2 v3 (L_X12_rowsOf_4 v1 D kx n_)) else gd (inb v3 12) ((if (D 7 v3.toNatClampNeg) = v1 then (B_X12_rowsOf_28 v2 v3 (L_X12_rowsOf_4 v1 D kx n_)) else (B_X12_rowsOf_33 v2 0 v3 (L_X12_rowsOf_4 v1 D kx n_))))))
def f_X12_rowsOf (v1 : Int32) (D : Mem) : Option Int32 :=
  (L_X12_rowsOf_4 v1 D (fun (v2_41 : Int32) => some v2_41) FU 0 0)
/-! TenCoinsModel.yesesOf.(II)I -/
def B_X12_yesesOf_50 (x0 : Int32) (x1 : Int32) (v4 : Int32) (kb : Int32 → Int32 → Option Int32) : Option Int32 :=
  lt_ (x0 + x1) (fun v3_51 => lt_ (v4 + 1) (fun v4_52 => kb v3_51 v4_52))
def B_X12_yesesOf_49 (x0 : Int32) (v4 : Int32) (kb : Int32 → Int32 → Option Int32) : Option Int32 :=
  (B_X12_yesesOf_50 x0 0 v4 kb)
def B_X12_yesesOf_31 (x0 : Int32) (v2 : Int32) (v4 : Int32) (D : Mem) (kb : Int32 → Int32 → Option Int32) : Option Int32 :=
  gd (inb v4 12) ((if (f_X12_has (D 8 v4.toNatClampNeg) v2) = true then (B_X12_yesesOf_50 x0 1 v4 kb) else (B_X12_yesesOf_49 x0 v4 kb)))
def L_X12_yesesOf_5 (v1 : Int32) (v2 : Int32) (D : Mem) (kx : Int32 → Option Int32) : Nat → Int32 → Int32 → Option Int32
  | 0, _, _ => none
  | n_ + 1, v3, v4 =>
    (if (D 0 9) ≤ v4 then kx v3 else (if v1 = (-1) then (B_X12_yesesOf_31 v3 v2 v4 D (L_X12_yesesOf_5 v1 v2 D kx n_)) else gd (inb v4 12) ((if (D 7 v4.toNatClampNeg) = v1 then (B_X12_yesesOf_31 v3 v2 v4 D (L_X12_yesesOf_5 v1 v2 D kx n_)) else (B_X12_yesesOf_49 v3 v4 (L_X12_yesesOf_5 v1 v2 D kx n_))))))
def f_X12_yesesOf (v1 : Int32) (v2 : Int32) (D : Mem) : Option Int32 :=
  (L_X12_yesesOf_5 v1 v2 D (fun (v3_58 : Int32) => some v3_58) FU 0 0)
/-! TenCoinsModel.taken.(III)J -/
def B_X12_taken_23 : Option Int64 :=
  some (f_X12_no (-2))
def f_X12_taken (v1 : Int32) (v2 : Int32) (v3 : Int32) (D : Mem) : Option Int64 :=
  (if (f_X12_isAny v1) = true then (if (f_X12_isOffer v2) = true then (if (f_X12_in v3 0 1) = true then Option.bind (f_X12_rowsOf v1 D) (fun r_31 => (if r_31 = 0 then some (f_X12_no (-3)) else Option.bind (f_X12_yesesOf v1 v2 D) (fun r_52 => Option.bind (f_X12_lowest (r_52.toInt64) (r_31.toInt64) v3) (fun r_60 => some r_60)))) else B_X12_taken_23) else B_X12_taken_23) else B_X12_taken_23)
/-! TenCoinsModel.bestNow.(I)I -/
def B_X12_bestNow_51 (x0 : Int32) (v3 : Int32) (kb : Int32 → Int32 → Option Int32) : Option Int32 :=
  lt_ (v3 + 1) (fun v3_52 => kb x0 v3_52)
def L_X12_bestNow_15 (v1 : Int32) (D : Mem) (kx : Int32 → Option Int32) : Nat → Int32 → Int32 → Option Int32
  | 0, _, _ => none
  | n_ + 1, v2, v3 =>
    (if 11 ≤ v3 then kx v2 else Option.bind (f_X12_yesesOf v1 v3 D) (fun r_28 => Option.bind (f_X12_yesesOf v1 v2 D) (fun r_39 => (if ((10 - v3) * r_28) ≤ ((10 - v2) * r_39) then (B_X12_bestNow_51 v2 v3 (L_X12_bestNow_15 v1 D kx n_)) else (B_X12_bestNow_51 v3 v3 (L_X12_bestNow_15 v1 D kx n_))))))
def f_X12_bestNow (v1 : Int32) (D : Mem) : Option Int32 :=
  Option.bind (f_X12_rowsOf v1 D) (fun r_2 => (if r_2 = 0 then some (-3) else (L_X12_bestNow_15 v1 D (fun (v2_58 : Int32) => some v2_58) FU 0 1)))
/-! TenCoinsModel.best.(I)I -/
def f_X12_best (v1 : Int32) (D : Mem) : Option Int32 :=
  (if (f_X12_isAny v1) = true then Option.bind (f_X12_bestNow v1 D) (fun r_9 => some r_9) else some (-2))
/-! TenCoinsModel.isBelief.(I)Z -/
def f_X12_isBelief (v1 : Int32) (D : Mem) : Bool :=
  (f_X12_in v1 0 ((D 0 12) - 1))
/-! TenCoinsModel.belief.(I)I -/
def f_X12_belief (v1 : Int32) (D : Mem) : Option (Int32 × Mem) :=
  (if (f_X12_isPeople v1) = true then (if (D 0 12) = 8 then some ((-4), D) else gd (inb (D 0 12) 8) (sto D 9 (D 0 12).toNatClampNeg v1 (fun D_31 => sto D_31 0 12 ((D_31 0 12) + 1) (fun D_39 => some (((D_39 0 12) - 1), D_39))))) else some ((-2), D))
/-! TenCoinsModel.believe.(III)I -/
def f_X12_believe (v1 : Int32) (v2 : Int32) (v3 : Int32) (D : Mem) : Option (Int32 × Mem) :=
  (if (f_X12_isBelief v1 D) = true then (if (f_X12_isOffer v2) = true then (if (f_X12_in v3 0 10) = true then gd (inb ((11 * v1) + v2) 88) (lt_ (D 10 ((11 * v1) + v2).toNatClampNeg) (fun v4_39 => gd (inb ((11 * v1) + v2) 88) (sto D 10 ((11 * v1) + v2).toNatClampNeg v3 (fun D_52 => some (v4_39, D_52))))) else some ((-2), D)) else some ((-2), D)) else some ((-2), D))
/-! TenCoinsModel.hisNow.(I)I -/
def B_X12_hisNow_50 (x0 : Int32) (v3 : Int32) (kb : Int32 → Int32 → Option Int32) : Option Int32 :=
  lt_ (v3 + 1) (fun v3_51 => kb x0 v3_51)
def L_X12_hisNow_4 (v1 : Int32) (D : Mem) (kx : Int32 → Option Int32) : Nat → Int32 → Int32 → Option Int32
  | 0, _, _ => none
  | n_ + 1, v2, v3 =>
    (if 11 ≤ v3 then kx v2 else gd (inb ((11 * v1) + v3) 88) (gd (inb ((11 * v1) + v2) 88) ((if ((10 - v3) * (D 10 ((11 * v1) + v3).toNatClampNeg)) ≤ ((10 - v2) * (D 10 ((11 * v1) + v2).toNatClampNeg)) then (B_X12_hisNow_50 v2 v3 (L_X12_hisNow_4 v1 D kx n_)) else (B_X12_hisNow_50 v3 v3 (L_X12_hisNow_4 v1 D kx n_))))))
def f_X12_hisNow (v1 : Int32) (D : Mem) : Option Int32 :=
  (L_X12_hisNow_4 v1 D (fun (v2_57 : Int32) => some v2_57) FU 0 1)
/-! TenCoinsModel.hisBest.(I)I -/
def f_X12_hisBest (v1 : Int32) (D : Mem) : Option Int32 :=
  (if (f_X12_isBelief v1 D) = true then Option.bind (f_X12_hisNow v1 D) (fun r_10 => some r_10) else some (-2))
/-! TenCoinsModel.off.(III)J -/
def B_X12_off_26 : Option Int64 :=
  some (f_X12_no (-2))
def L_X12_off_123 (v1 : Int32) (v4 : Int32) (v5 : Int32) (D : Mem) (kx : Int32 → Option Int64) : Nat → Int32 → Int32 → Option Int64
  | 0, _, _ => none
  | n_ + 1, v6, v7 =>
    (if 11 ≤ v7 then kx v6 else gd (inb ((11 * v1) + v7) 88) (Option.bind (f_X12_yesesOf v4 v7 D) (fun r_154 => lt_ (v6 + (f_X12_amount (((D 10 ((11 * v1) + v7).toNatClampNeg) * v5) - (10 * r_154)))) (fun v6_163 => lt_ (v7 + 1) (fun v7_165 => L_X12_off_123 v1 v4 v5 D kx n_ v6_163 v7_165)))))
def f_X12_off (v1 : Int32) (v2 : Int32) (v3 : Int32) (D : Mem) : Option Int64 :=
  (if (f_X12_isBelief v1 D) = true then (if (f_X12_in v2 0 1) = true then (if (f_X12_in v3 0 1) = true then gd (inb v1 8) (lt_ (D 9 v1.toNatClampNeg) (fun v4_38 => Option.bind (f_X12_rowsOf v4_38 D) (fun r_43 => (if r_43 = 0 then some (f_X12_no (-3)) else (if v2 = 1 then Option.bind (f_X12_bestNow v4_38 D) (fun r_67 => Option.bind (f_X12_hisNow v1 D) (fun r_74 => Option.bind (f_X12_yesesOf v4_38 r_67 D) (fun r_89 => Option.bind (f_X12_yesesOf v4_38 r_74 D) (fun r_103 => Option.bind (f_X12_lowest ((((10 - r_67) * r_89) - ((10 - r_74) * r_103)).toInt64) (r_43.toInt64) v3) (fun r_113 => some r_113))))) else (L_X12_off_123 v1 v4_38 r_43 D (fun (v6_171 : Int32) => Option.bind (f_X12_lowest (v6_171.toInt64) (10 * (r_43.toInt64)) v3) (fun r_182 => some r_182)) FU 0 0)))))) else B_X12_off_26) else B_X12_off_26) else B_X12_off_26)
/-! TenCoinsModel.type.(I)I -/
def f_X12_type (v1 : Int32) (D : Mem) : Option (Int32 × Mem) :=
  (if (f_X12_in v1 0 255) = true then (if (D 0 15) = 60 then some ((-4), D) else gd (inb (D 0 15) 60) (sto D 11 (D 0 15).toNatClampNeg v1 (fun D_35 => sto D_35 0 15 ((D_35 0 15) + 1) (fun D_43 => some ((D_43 0 15), D_43))))) else some ((-2), D))
/-! TenCoinsModel.wipe.()I -/
def f_X12_wipe (D : Mem) : Option (Int32 × Mem) :=
  lt_ (D 0 15) (fun v1_4 => sto D 0 15 0 (fun D_7 => some (v1_4, D_7)))
/-! TenCoinsModel.byteAt.(I)I -/
def f_X12_byteAt (v1 : Int32) (D : Mem) : Option Int32 :=
  (if (D 0 15) ≤ v1 then some (-1) else gd (inb v1 60) (some (D 11 v1.toNatClampNeg)))
/-! TenCoinsModel.nodeMore.(II)V -/
def B_X12_nodeMore_69 (D : Mem) : Option Mem :=
  sto D 0 17 ((D 0 17) + 1) (fun D_76 => some D_76)
def B_X12_nodeMore_53 (x1 : Int32) (x2 : Int32) (v2 : Int32) (D : Mem) : Option Mem :=
  gd (inb x1 60) (sto D 14 x1.toNatClampNeg x2 (fun D_53 => (if v2 = (-1) then (B_X12_nodeMore_69 D_53) else gd (inb v2 60) (gd (inb v2 60) (sto D_53 15 v2.toNatClampNeg ((D_53 15 v2.toNatClampNeg) + 1) (fun D_68 => (B_X12_nodeMore_69 D_68)))))))
def f_X12_nodeMore (v1 : Int32) (v2 : Int32) (D : Mem) : Option Mem :=
  gd (inb (D 0 17) 60) (sto D 12 (D 0 17).toNatClampNeg v1 (fun D_9 => gd (inb (D_9 0 17) 60) (sto D_9 13 (D_9 0 17).toNatClampNeg v2 (fun D_19 => gd (inb (D_19 0 17) 60) (sto D_19 15 (D_19 0 17).toNatClampNeg 0 (fun D_29 => (if v2 = (-1) then (B_X12_nodeMore_53 (D_29 0 17) 0 v2 D_29) else gd (inb v2 60) ((B_X12_nodeMore_53 (D_29 0 17) (D_29 15 v2.toNatClampNeg) v2 D_29)))))))))
/-! TenCoinsModel.faultNow.()I -/
def L_X12_faultNow_98 (kx : Int32 → Mem → Option (Int32 × Mem)) : Nat → Int32 → Int32 → Mem → Option (Int32 × Mem)
  | 0, _, _, _ => none
  | n_ + 1, v1, v5, D =>
    (if 3 ≤ v5 then kx v1 D else Option.bind (f_X12_byteAt v1 D) (fun r_106 => (if (f_X12_in r_106 48 57) = true then Option.bind (f_X12_byteAt v1 D) (fun r_138 => gd (inb ((3 * ((D 0 17) - 1)) + v5) 180) (sto D 18 ((3 * ((D 0 17) - 1)) + v5).toNatClampNeg (r_138 - 48) (fun D_144 => lt_ (v1 + 1) (fun v1_145 => lt_ (v5 + 1) (fun v5_148 => L_X12_faultNow_98 kx n_ v1_145 v5_148 D_144))))) else some (v1, D))))
def L_X12_faultNow_154 (D : Mem) (kx : Int32 → Int32 → Option (Int32 × Mem)) : Nat → Int32 → Int32 → Option (Int32 × Mem)
  | 0, _, _ => none
  | n_ + 1, v1, v2 =>
    (if v2 = (-1) then kx v1 v2 else Option.bind (f_X12_byteAt v1 D) (fun r_161 => (if r_161 = 41 then gd (inb v2 60) (lt_ (D 13 v2.toNatClampNeg) (fun v2_175 => lt_ (v1 + 1) (fun v1_176 => L_X12_faultNow_154 D kx n_ v1_176 v2_175))) else kx v1 v2)))
def B_X12_faultNow_226 (v1 : Int32) (v2 : Int32) (D : Mem) (kb : Int32 → Int32 → Mem → Option (Int32 × Mem)) : Option (Int32 × Mem) :=
  kb v1 v2 D
def B_X12_faultNow_46 (x0 : Int32) (v1 : Int32) (v2 : Int32) (D : Mem) (kb : Int32 → Int32 → Mem → Option (Int32 × Mem)) : Option (Int32 × Mem) :=
  (if 3 ≤ x0 then Option.bind (f_X12_nodeMore 3 v2 D) (fun D_92 => (L_X12_faultNow_98 (fun (v1_154 : Int32) (D_154 : Mem) => (L_X12_faultNow_154 D_154 (fun (v1_182 : Int32) (v2_182 : Int32) => (if v2_182 = (-1) then (if (D_154 0 15) ≤ v1_182 then some ((-1), D_154) else some (v1_182, D_154)) else Option.bind (f_X12_byteAt v1_182 D_154) (fun r_203 => (if r_203 = 44 then gd (inb v2_182 60) ((if (D_154 15 v2_182.toNatClampNeg) = 4 then some (v1_182, D_154) else lt_ (v1_182 + 1) (fun v1_223 => (B_X12_faultNow_226 v1_223 v2_182 D_154 kb)))) else some (v1_182, D_154))))) FU v1_154 v2)) FU v1 0 D_92)) else Option.bind (f_X12_nodeMore x0 v2 D) (fun D_58 => lt_ (v1 + 1) (fun v1_61 => Option.bind (f_X12_byteAt v1_61 D_58) (fun r_66 => (if r_66 = 40 then lt_ (v1_61 + 1) (fun v1_76 => lt_ ((D_58 0 17) - 1) (fun v2_85 => (B_X12_faultNow_226 v1_76 v2_85 D_58 kb))) else some (v1_61, D_58))))))
def L_X12_faultNow_9 : Nat → Int32 → Int32 → Mem → Option (Int32 × Mem)
  | 0, _, _, _ => none
  | n_ + 1, v1, v2, D =>
    Option.bind (f_X12_byteAt v1 D) (fun r_11 => (if r_11 = 103 then (B_X12_faultNow_46 0 v1 v2 D (L_X12_faultNow_9 n_)) else (if r_11 = 97 then (B_X12_faultNow_46 1 v1 v2 D (L_X12_faultNow_9 n_)) else (if r_11 = 116 then (B_X12_faultNow_46 2 v1 v2 D (L_X12_faultNow_9 n_)) else (B_X12_faultNow_46 3 v1 v2 D (L_X12_faultNow_9 n_))))))
def f_X12_faultNow (D : Mem) : Option (Int32 × Mem) :=
  sto D 0 17 0 (fun D_2 => (L_X12_faultNow_9 FU 0 (-1) D_2))
/-! TenCoinsModel.fault.()I -/
def f_X12_fault (D : Mem) : Option (Int32 × Mem) :=
  bnd2 (f_X12_faultNow D) (fun r_1 D_1 => some (r_1, D_1))
/-! TenCoinsModel.worth.(III)I -/
def B_X12_worth_62 (x0 : Int32) (v6 : Int32) (kb : Int32 → Int32 → Option Int32) : Option Int32 :=
  lt_ (v6 + 1) (fun v6_64 => kb x0 v6_64)
def B_X12_worth_60 (v5 : Int32) (v6 : Int32) (kb : Int32 → Int32 → Option Int32) : Option Int32 :=
  (B_X12_worth_62 v5 v6 kb)
def L_X12_worth_18 (v1 : Int32) (v2 : Int32) (D : Mem) (kx : Int32 → Option Int32) : Nat → Int32 → Int32 → Option Int32
  | 0, _, _ => none
  | n_ + 1, v5, v6 =>
    (if 3 ≤ v6 then kx v5 else (if v6 = v2 then (B_X12_worth_60 v5 v6 (L_X12_worth_18 v1 v2 D kx n_)) else gd (inb ((3 * v1) + v6) 180) ((if (D 18 ((3 * v1) + v6).toNatClampNeg) ≤ v5 then (B_X12_worth_60 v5 v6 (L_X12_worth_18 v1 v2 D kx n_)) else gd (inb ((3 * v1) + v6) 180) ((B_X12_worth_62 (D 18 ((3 * v1) + v6).toNatClampNeg) v6 (L_X12_worth_18 v1 v2 D kx n_)))))))
def f_X12_worth (v1 : Int32) (v2 : Int32) (v3 : Int32) (D : Mem) : Option Int32 :=
  gd (inb ((3 * v1) + v2) 180) (lt_ (D 18 ((3 * v1) + v2).toNatClampNeg) (fun v4_10 => (L_X12_worth_18 v1 v2 D (fun (v5_70 : Int32) => (if v5_70 ≤ v4_10 then some ((4 * v4_10) - 0) else some ((4 * v4_10) - (v3 * (v5_70 - v4_10))))) FU 0 0)))
/-! TenCoinsModel.reckons.(I)V -/
def B_X12_reckons_130 (v3 : Int32) (D : Mem) (kb : Int32 → Mem → Option Mem) : Option Mem :=
  lt_ (v3 + 1) (fun v3_130 => kb v3_130 D)
def B_X12_reckons_123 (v2 : Int32) (v3 : Int32) (D : Mem) (kb : Int32 → Mem → Option Mem) : Option Mem :=
  gd (inb v2 60) (sto D 17 v2.toNatClampNeg v3 (fun D_129 => (B_X12_reckons_130 v3 D_129 kb)))
def L_X12_reckons_43 (v1 : Int32) (v2 : Int32) (kx : Mem → Option Mem) : Nat → Int32 → Mem → Option Mem
  | 0, _, _ => none
  | n_ + 1, v3, D =>
    (if (D 0 17) ≤ v3 then kx D else gd (inb v2 60) ((if 3 ≤ (D 12 v2.toNatClampNeg) then kx D else gd (inb v3 60) ((if (D 13 v3.toNatClampNeg) = v2 then gd (inb v2 60) ((if (D 17 v2.toNatClampNeg) = (-1) then (B_X12_reckons_123 v2 v3 D (L_X12_reckons_43 v1 v2 kx n_)) else gd (inb v3 60) (gd (inb v2 60) (Option.bind (f_X12_worth (D 16 v3.toNatClampNeg) (D 12 v2.toNatClampNeg) v1 D) (fun r_95 => gd (inb v2 60) (gd (inb (D 17 v2.toNatClampNeg) 60) (gd (inb v2 60) (Option.bind (f_X12_worth (D 16 (D 17 v2.toNatClampNeg).toNatClampNeg) (D 12 v2.toNatClampNeg) v1 D) (fun r_117 => (if r_95 ≤ r_117 then (B_X12_reckons_130 v3 D (L_X12_reckons_43 v1 v2 kx n_)) else (B_X12_reckons_123 v2 v3 D (L_X12_reckons_43 v1 v2 kx n_)))))))))))) else (B_X12_reckons_130 v3 D (L_X12_reckons_43 v1 v2 kx n_)))))))
def B_X12_reckons_171 (x1 : Int32) (x2 : Int32) (v2 : Int32) (D : Mem) (kb : Int32 → Mem → Option Mem) : Option Mem :=
  gd (inb x1 60) (sto D 16 x1.toNatClampNeg x2 (fun D_171 => lt_ (v2 + (-1)) (fun v2_172 => kb v2_172 D_171)))
def B_X12_reckons_38 (x1 : Int32) (x2 : Int32) (v1 : Int32) (v2 : Int32) (D : Mem) (kb : Int32 → Mem → Option Mem) : Option Mem :=
  gd (inb x1 60) (sto D 16 x1.toNatClampNeg x2 (fun D_38 => lt_ (v2 + 1) (fun v3_42 => (L_X12_reckons_43 v1 v2 (fun (D_136 : Mem) => gd (inb v2 60) ((if (D_136 17 v2.toNatClampNeg) = (-1) then gd (inb v2 60) ((B_X12_reckons_171 v2 (D_136 16 v2.toNatClampNeg) v2 D_136 kb)) else gd (inb v2 60) (gd (inb (D_136 17 v2.toNatClampNeg) 60) ((B_X12_reckons_171 v2 (D_136 16 (D_136 17 v2.toNatClampNeg).toNatClampNeg) v2 D_136 kb)))))) FU v3_42 D_38))))
def L_X12_reckons_7 (v1 : Int32) (kx : Mem → Option Mem) : Nat → Int32 → Mem → Option Mem
  | 0, _, _ => none
  | n_ + 1, v2, D =>
    (if v2 < 0 then kx D else gd (inb v2 60) (sto D 17 v2.toNatClampNeg (-1) (fun D_17 => gd (inb v2 60) ((if (D_17 12 v2.toNatClampNeg) = 3 then (B_X12_reckons_38 v2 v2 v1 v2 D_17 (L_X12_reckons_7 v1 kx n_)) else (B_X12_reckons_38 v2 (-1) v1 v2 D_17 (L_X12_reckons_7 v1 kx n_)))))))
def f_X12_reckons (v1 : Int32) (D : Mem) : Option Mem :=
  lt_ ((D 0 17) - 1) (fun v2_6 => (L_X12_reckons_7 v1 (fun (D_178 : Mem) => some D_178) FU v2_6 D))
/-! TenCoinsModel.lettersOf.(Z)I -/
def B_X12_lettersOf_37 (x0 : Int32) (x1 : Int32) (v3 : Int32) (kb : Int32 → Int32 → Option Int32) : Option Int32 :=
  lt_ (x0 + x1) (fun v2_38 => lt_ (v3 + 1) (fun v3_39 => kb v2_38 v3_39))
def B_X12_lettersOf_28 (x0 : Int32) (x1 : Int32) (v1 : Int32) (v3 : Int32) (kb : Int32 → Int32 → Option Int32) : Option Int32 :=
  (if x1 = v1 then (B_X12_lettersOf_37 x0 1 v3 kb) else (B_X12_lettersOf_37 x0 0 v3 kb))
def L_X12_lettersOf_4 (v1 : Int32) (D : Mem) (kx : Int32 → Option Int32) : Nat → Int32 → Int32 → Option Int32
  | 0, _, _ => none
  | n_ + 1, v2, v3 =>
    (if (D 0 17) ≤ v3 then kx v2 else gd (inb v3 60) ((if (D 12 v3.toNatClampNeg) = 3 then (B_X12_lettersOf_28 v2 1 v1 v3 (L_X12_lettersOf_4 v1 D kx n_)) else (B_X12_lettersOf_28 v2 0 v1 v3 (L_X12_lettersOf_4 v1 D kx n_)))))
def f_X12_lettersOf (v1 : Int32) (D : Mem) : Option Int32 :=
  (L_X12_lettersOf_4 v1 D (fun (v2_45 : Int32) => some v2_45) FU 0 0)
/-! TenCoinsModel.wayOf.()I -/
def L_X12_wayOf_4 (D : Mem) (kx : Int32 → Option Int32) : Nat → Int32 → Int32 → Option Int32
  | 0, _, _ => none
  | n_ + 1, v1, v2 =>
    gd (inb v2 60) ((if (D 17 v2.toNatClampNeg) = (-1) then kx v1 else gd (inb v2 60) (lt_ (D 17 v2.toNatClampNeg) (fun v2_20 => lt_ (v1 + 1) (fun v1_21 => L_X12_wayOf_4 D kx n_ v1_21 v2_20)))))
def f_X12_wayOf (D : Mem) : Option Int32 :=
  (L_X12_wayOf_4 D (fun (v1_27 : Int32) => some v1_27) FU 0 0)
/-! TenCoinsModel.reckonNow.(II)I -/
def B_X12_reckonNow_62 (x1 : Int32) (D : Mem) : Option (Int32 × Mem) :=
  Option.bind (f_X12_lettersOf x1 D) (fun r_62 => some (r_62, D))
def f_X12_reckonNow (v1 : Int32) (v2 : Int32) (D : Mem) : Option (Int32 × Mem) :=
  bnd2 (f_X12_faultNow D) (fun r_1 D_1 => (if r_1 = (-1) then Option.bind (f_X12_reckons v1 D_1) (fun D_13 => (if 3 ≤ v2 then (if v2 = 3 then Option.bind (f_X12_wayOf D_13) (fun r_45 => some (r_45, D_13)) else (if v2 = 4 then (B_X12_reckonNow_62 1 D_13) else (B_X12_reckonNow_62 0 D_13))) else gd (inb 0 60) (gd (inb ((3 * (D_13 16 (0 : Int32).toNatClampNeg)) + v2) 180) (some ((D_13 18 ((3 * (D_13 16 (0 : Int32).toNatClampNeg)) + v2).toNatClampNeg), D_13))))) else some ((-3), D_1)))
/-! TenCoinsModel.reckon.(II)I -/
def f_X12_reckon (v1 : Int32) (v2 : Int32) (D : Mem) : Option (Int32 × Mem) :=
  (if (f_X12_in v1 0 40) = true then (if (f_X12_in v2 0 5) = true then bnd2 (f_X12_reckonNow v1 v2 D) (fun r_22 D_22 => some (r_22, D_22)) else some ((-2), D)) else some ((-2), D))
/-! TenCoinsModel.how.(II)I -/
def L_X12_how_48 (v2 : Int32) (D : Mem) (kx : Int32 → Option (Int32 × Mem)) : Nat → Int32 → Int32 → Option (Int32 × Mem)
  | 0, _, _ => none
  | n_ + 1, v3, v4 =>
    (if v2 ≤ v4 then kx v3 else gd (inb v3 60) (lt_ (D 17 v3.toNatClampNeg) (fun v3_60 => lt_ (v4 + 1) (fun v4_61 => L_X12_how_48 v2 D kx n_ v3_60 v4_61))))
def f_X12_how (v1 : Int32) (v2 : Int32) (D : Mem) : Option (Int32 × Mem) :=
  (if (f_X12_in v1 0 40) = true then (if 0 ≤ v2 then bnd2 (f_X12_faultNow D) (fun r_18 D_18 => (if r_18 = (-1) then Option.bind (f_X12_reckons v1 D_18) (fun D_30 => Option.bind (f_X12_wayOf D_30) (fun r_35 => (if v2 < r_35 then (L_X12_how_48 v2 D_30 (fun (v3_67 : Int32) => gd (inb v3_67 60) (gd (inb (D_30 17 v3_67.toNatClampNeg) 60) (some ((D_30 14 (D_30 17 v3_67.toNatClampNeg).toNatClampNeg), D_30)))) FU 0 0) else some ((-1), D_30)))) else some ((-3), D_18))) else some ((-2), D)) else some ((-2), D))
/-! TenCoinsModel.temperNow.()I -/
def L_X12_temperNow_25 (v1 : Int32) (kx : Mem → Option (Int32 × Mem)) : Nat → Int32 → Mem → Option (Int32 × Mem)
  | 0, _, _ => none
  | n_ + 1, v2, D =>
    (if 41 ≤ v2 then kx D else Option.bind (f_X12_reckons v2 D) (fun D_33 => gd (inb 0 60) ((if (D_33 16 (0 : Int32).toNatClampNeg) = v1 then lt_ (v2 + 1) (fun v2_48 => L_X12_temperNow_25 v1 kx n_ v2_48 D_33) else some (v2, D_33)))))
def f_X12_temperNow (D : Mem) : Option (Int32 × Mem) :=
  bnd2 (f_X12_faultNow D) (fun r_1 D_1 => (if r_1 = (-1) then Option.bind (f_X12_reckons 0 D_1) (fun D_13 => gd (inb 0 60) (lt_ (D_13 16 (0 : Int32).toNatClampNeg) (fun v1_22 => (L_X12_temperNow_25 v1_22 (fun (D_54 : Mem) => some ((-1), D_54)) FU 1 D_13)))) else some ((-3), D_1)))
/-! TenCoinsModel.temper.()I -/
def f_X12_temper (D : Mem) : Option (Int32 × Mem) :=
  bnd2 (f_X12_temperNow D) (fun r_1 D_1 => some (r_1, D_1))
/-! TenCoinsModel.two.(II)I -/
def B_X12_two_152 (v8 : Int32) (v9 : Int32) (D : Mem) (kb : Int32 → Int32 → Mem → Option (Int32 × Mem)) : Option (Int32 × Mem) :=
  lt_ (v9 + 1) (fun v9_152 => kb v8 v9_152 D)
def B_X12_two_135 (v8 : Int32) (v9 : Int32) (D : Mem) (kb : Int32 → Int32 → Mem → Option (Int32 × Mem)) : Option (Int32 × Mem) :=
  gd (inb v9 60) (gd (inb v8 14) (sto D 19 v8.toNatClampNeg (D 3 v9.toNatClampNeg) (fun D_148 => lt_ (v8 + 1) (fun v8_149 => (B_X12_two_152 v8_149 v9 D_148 kb)))))
def L_X12_two_104 (v1 : Int32) (v2 : Int32) (kx : Mem → Option (Int32 × Mem)) : Nat → Int32 → Int32 → Mem → Option (Int32 × Mem)
  | 0, _, _, _ => none
  | n_ + 1, v8, v9, D =>
    (if (D 0 0) ≤ v9 then kx D else Option.bind (f_X12_isOf v9 v1 0 D) (fun r_118 => (if r_118 = true then (B_X12_two_135 v8 v9 D (L_X12_two_104 v1 v2 kx n_)) else Option.bind (f_X12_isOf v9 v2 0 D) (fun r_129 => (if r_129 = true then (B_X12_two_135 v8 v9 D (L_X12_two_104 v1 v2 kx n_)) else (B_X12_two_152 v8 v9 D (L_X12_two_104 v1 v2 kx n_)))))))
def B_X12_two_271 (v9 : Int64) (v11 : Int64) (v13 : Int32) (kb : Int64 → Int64 → Int32 → Option (Int32 × Mem)) : Option (Int32 × Mem) :=
  lt_ (v13 + 1) (fun v13_271 => kb v9 v11 v13_271)
def B_X12_two_225 (x0 : Int32) (x1 : Int32) (v15 : Int32) (kb : Int32 → Int32 → Option (Int32 × Mem)) : Option (Int32 × Mem) :=
  lt_ (x0 + x1) (fun v14_226 => lt_ (v15 + 1) (fun v15_228 => kb v14_226 v15_228))
def L_X12_two_193 (v3 : Int32) (v4 : Int32) (v13 : Int32) (D : Mem) (kx : Int32 → Option (Int32 × Mem)) : Nat → Int32 → Int32 → Option (Int32 × Mem)
  | 0, _, _ => none
  | n_ + 1, v14, v15 =>
    (if (v3 + v4) ≤ v15 then kx v14 else (if (f_X12_has v13 v15) = true then gd (inb v15 14) ((B_X12_two_225 v14 (D 19 v15.toNatClampNeg) v15 (L_X12_two_193 v3 v4 v13 D kx n_))) else (B_X12_two_225 v14 0 v15 (L_X12_two_193 v3 v4 v13 D kx n_))))
def B_X12_two_268 (x0 : Int64) (x1 : Int64) (v9 : Int64) (v13 : Int32) (kb : Int64 → Int64 → Int32 → Option (Int32 × Mem)) : Option (Int32 × Mem) :=
  lt_ (x0 + x1) (fun v11_269 => (B_X12_two_271 v9 v11_269 v13 kb))
def L_X12_two_167 (v3 : Int32) (v4 : Int32) (v6 : Int32) (v7 : Int32) (D : Mem) (kx : Int64 → Int64 → Option (Int32 × Mem)) : Nat → Int64 → Int64 → Int32 → Option (Int32 × Mem)
  | 0, _, _, _ => none
  | n_ + 1, v9, v11, v13 =>
    (if (1 <<< ((v3 + v4) &&& 31)) ≤ v13 then kx v9 v11 else Option.bind (f_X12_ones v13) (fun r_180 => (if r_180 = v3 then (L_X12_two_193 v3 v4 v13 D (fun (v14_234 : Int32) => lt_ (v9 + 1) (fun v9_238 => (if (f_X12_amount ((v14_234 * v4) - ((v6 - v14_234) * v3))) < v7 then (B_X12_two_268 v11 0 v9_238 v13 (L_X12_two_167 v3 v4 v6 v7 D kx n_)) else (B_X12_two_268 v11 1 v9_238 v13 (L_X12_two_167 v3 v4 v6 v7 D kx n_))))) FU 0 0) else (B_X12_two_271 v9 v11 v13 (L_X12_two_167 v3 v4 v6 v7 D kx n_)))))
def f_X12_two (v1 : Int32) (v2 : Int32) (D : Mem) : Option (Int32 × Mem) :=
  (if (f_X12_isPeople v1) = true then (if (f_X12_isPeople v2) = true then (if v1 = v2 then some ((-2), D) else Option.bind (f_X12_countOf v1 0 D) (fun r_25 => Option.bind (f_X12_countOf v2 0 D) (fun r_32 => (if r_25 = 0 then some ((-3), D) else (if r_32 = 0 then some ((-3), D) else (if (r_25 + r_32) ≤ 14 then Option.bind (f_X12_sumOf v1 0 D) (fun r_64 => Option.bind (f_X12_sumOf v2 0 D) (fun r_74 => lt_ (r_64 + r_74) (fun v6_78 => lt_ (f_X12_amount ((r_64 * r_32) - ((v6_78 - r_64) * r_25))) (fun v7_96 => (L_X12_two_104 v1 v2 (fun (D_158 : Mem) => (L_X12_two_167 r_25 r_32 v6_78 v7_96 D_158 (fun (v9_277 : Int64) (v11_277 : Int64) => gd (decide (¬ v9_277 = 0)) (some ((((1000000 * v11_277) / v9_277).toInt32), D_158))) FU 0 0 0)) FU 0 0 D))))) else some ((-4), D))))))) else some ((-2), D)) else some ((-2), D))
/-! TenCoinsModel.thing.(IIII)I -/
def f_X12_thing (v1 : Int32) (v2 : Int32) (v3 : Int32) (v4 : Int32) (D : Mem) : Option (Int32 × Mem) :=
  (if (f_X12_in v1 0 99) = true then (if (f_X12_in v2 0 99) = true then (if (f_X12_in v3 0 99) = true then (if (f_X12_in v4 0 99) = true then (if (D 0 26) = 6 then some ((-4), D) else gd (inb (4 * (D 0 26)) 24) (sto D 20 (4 * (D 0 26)).toNatClampNeg v1 (fun D_67 => gd (inb ((4 * (D_67 0 26)) + 1) 24) (sto D_67 20 ((4 * (D_67 0 26)) + 1).toNatClampNeg v2 (fun D_81 => gd (inb ((4 * (D_81 0 26)) + 2) 24) (sto D_81 20 ((4 * (D_81 0 26)) + 2).toNatClampNeg v3 (fun D_95 => gd (inb ((4 * (D_95 0 26)) + 3) 24) (sto D_95 20 ((4 * (D_95 0 26)) + 3).toNatClampNeg v4 (fun D_110 => sto D_110 0 26 ((D_110 0 26) + 1) (fun D_118 => some (((D_118 0 26) - 1), D_118))))))))))) else some ((-2), D)) else some ((-2), D)) else some ((-2), D)) else some ((-2), D))
/-! TenCoinsModel.way.(I)I -/
def f_X12_way (v0 : Int32) : Int32 :=
  (if v0 ≤ 0 then (if 0 ≤ v0 then 0 else (-1)) else 1)
/-! TenCoinsModel.gathers.()V -/
def B_X12_gathers_51 (v1 : Int32) (D : Mem) (kb : Int32 → Mem → Option Mem) : Option Mem :=
  lt_ (v1 + 1) (fun v1_51 => kb v1_51 D)
def L_X12_gathers_7 (kx : Mem → Option Mem) : Nat → Int32 → Mem → Option Mem
  | 0, _, _ => none
  | n_ + 1, v1, D =>
    (if 4 ≤ v1 then kx D else Option.bind (f_X12_countOf v1 0 D) (fun r_15 => (if r_15 ≤ 0 then (B_X12_gathers_51 v1 D (L_X12_gathers_7 kx n_)) else gd (inb (D 0 30) 4) (sto D 21 (D 0 30).toNatClampNeg v1 (fun D_30 => gd (inb (D_30 0 30) 4) (sto D_30 22 (D_30 0 30).toNatClampNeg v1 (fun D_40 => sto D_40 0 30 ((D_40 0 30) + 1) (fun D_48 => (B_X12_gathers_51 v1 D_48 (L_X12_gathers_7 kx n_))))))))))
def f_X12_gathers (D : Mem) : Option Mem :=
  sto D 0 30 0 (fun D_2 => (L_X12_gathers_7 (fun (D_57 : Mem) => some D_57) FU 0 D_2))
/-! TenCoinsModel.goesBy.(I)I -/
def L_X12_goesBy_15 (v1 : Int32) (v3 : Int32) (D : Mem) (kx : Int32 → Option Int32) : Nat → Int32 → Int32 → Option Int32
  | 0, _, _ => none
  | n_ + 1, v2, v4 =>
    (if v3 ≤ v4 then kx v2 else gd (inb v3 4) (Option.bind (f_X12_sumOf (D 22 v3.toNatClampNeg) 0 D) (fun r_29 => gd (inb v4 4) (Option.bind (f_X12_countOf (D 22 v4.toNatClampNeg) 0 D) (fun r_41 => gd (inb v4 4) (Option.bind (f_X12_sumOf (D 22 v4.toNatClampNeg) 0 D) (fun r_54 => gd (inb v3 4) (Option.bind (f_X12_countOf (D 22 v3.toNatClampNeg) 0 D) (fun r_65 => lt_ (f_X12_way ((r_29 * r_41) - (r_54 * r_65))) (fun v5_73 => gd (inb v3 4) (gd (inb ((4 * v1) + (D 21 v3.toNatClampNeg)) 24) (gd (inb v4 4) (gd (inb ((4 * v1) + (D 21 v4.toNatClampNeg)) 24) (lt_ (v2 + (v5_73 * (f_X12_way ((D 20 ((4 * v1) + (D 21 v3.toNatClampNeg)).toNatClampNeg) - (D 20 ((4 * v1) + (D 21 v4.toNatClampNeg)).toNatClampNeg))))) (fun v2_115 => lt_ (v4 + 1) (fun v4_116 => L_X12_goesBy_15 v1 v3 D kx n_ v2_115 v4_116))))))))))))))))
def L_X12_goesBy_4 (v1 : Int32) (D : Mem) (kx : Int32 → Option Int32) : Nat → Int32 → Int32 → Option Int32
  | 0, _, _ => none
  | n_ + 1, v2, v3 =>
    (if (D 0 30) ≤ v3 then kx v2 else (L_X12_goesBy_15 v1 v3 D (fun (v2_122 : Int32) => lt_ (v3 + 1) (fun v3_122 => L_X12_goesBy_4 v1 D kx n_ v2_122 v3_122)) FU v2 0))
def f_X12_goesBy (v1 : Int32) (D : Mem) : Option Int32 :=
  (L_X12_goesBy_4 v1 D (fun (v2_128 : Int32) => some v2_128) FU 0 0)
/-! TenCoinsModel.goesNow.(I)I -/
def f_X12_goesNow (v1 : Int32) (D : Mem) : Option (Int32 × Mem) :=
  Option.bind (f_X12_gathers D) (fun D_1 => Option.bind (f_X12_goesBy v1 D_1) (fun r_6 => some (r_6, D_1)))
/-! TenCoinsModel.goes.(I)I -/
def f_X12_goes (v1 : Int32) (D : Mem) : Option (Int32 × Mem) :=
  (if (f_X12_in v1 0 ((D 0 26) - 1)) = true then bnd2 (f_X12_goesNow v1 D) (fun r_16 D_16 => some (r_16, D_16)) else some ((-99), D))
/-! TenCoinsModel.greatest.()I -/
def B_X12_greatest_31 (x0 : Int32) (v2 : Int32) (kb : Int32 → Int32 → Option Int32) : Option Int32 :=
  lt_ (v2 + 1) (fun v2_32 => kb x0 v2_32)
def L_X12_greatest_4 (D : Mem) (kx : Int32 → Option Int32) : Nat → Int32 → Int32 → Option Int32
  | 0, _, _ => none
  | n_ + 1, v1, v2 =>
    (if (D 0 26) ≤ v2 then kx v1 else Option.bind (f_X12_goesBy v2 D) (fun r_14 => lt_ (f_X12_amount r_14) (fun v3_20 => (if v3_20 ≤ v1 then (B_X12_greatest_31 v1 v2 (L_X12_greatest_4 D kx n_)) else (B_X12_greatest_31 v3_20 v2 (L_X12_greatest_4 D kx n_))))))
def f_X12_greatest (D : Mem) : Option Int32 :=
  (L_X12_greatest_4 D (fun (v1_38 : Int32) => some v1_38) FU 0 0)
/-! TenCoinsModel.lookedNow.()I -/
def L_X12_lookedNow_31 (D : Mem) (kx : Int32 → Option (Int32 × Mem)) : Nat → Int32 → Int32 → Option (Int32 × Mem)
  | 0, _, _ => none
  | n_ + 1, v2, v3 =>
    (if (D 0 30) ≤ v3 then kx v2 else lt_ (v2 * (D 0 30)) (fun v2_45 => lt_ (v3 + 1) (fun v3_46 => L_X12_lookedNow_31 D kx n_ v2_45 v3_46)))
def L_X12_lookedNow_76 (kx : Int32 → Mem → Option (Int32 × Mem)) : Nat → Int32 → Int32 → Int32 → Mem → Option (Int32 × Mem)
  | 0, _, _, _, _ => none
  | n_ + 1, v8, v9, v10, D =>
    (if (D 0 30) ≤ v10 then kx v9 D else gd (decide (¬ (D 0 30) = 0)) (gd (inb (v8 - v8 / (D 0 30) * (D 0 30)) 4) (gd (inb v10 4) (sto D 22 v10.toNatClampNeg (D 21 (v8 - v8 / (D 0 30) * (D 0 30)).toNatClampNeg) (fun D_103 => gd (decide (¬ (D_103 0 30) = 0)) (lt_ (v9 ||| (1 <<< ((v8 - v8 / (D_103 0 30) * (D_103 0 30)) &&& 31))) (fun v9_116 => gd (decide (¬ (D_103 0 30) = 0)) (lt_ (v8 / (D_103 0 30)) (fun v8_125 => lt_ (v10 + 1) (fun v10_127 => L_X12_lookedNow_76 kx n_ v8_125 v9_116 v10_127 D_103))))))))))
def B_X12_lookedNow_168 (v3 : Int64) (v5 : Int64) (v7 : Int32) (D : Mem) (kb : Int64 → Int64 → Int32 → Mem → Option (Int32 × Mem)) : Option (Int32 × Mem) :=
  lt_ (v7 + 1) (fun v7_168 => kb v3 v5 v7_168 D)
def B_X12_lookedNow_165 (x0 : Int64) (x1 : Int64) (v3 : Int64) (v7 : Int32) (D : Mem) (kb : Int64 → Int64 → Int32 → Mem → Option (Int32 × Mem)) : Option (Int32 × Mem) :=
  lt_ (x0 + x1) (fun v5_166 => (B_X12_lookedNow_168 v3 v5_166 v7 D kb))
def L_X12_lookedNow_60 (v1 : Int32) (v2 : Int32) (kx : Int64 → Int64 → Mem → Option (Int32 × Mem)) : Nat → Int64 → Int64 → Int32 → Mem → Option (Int32 × Mem)
  | 0, _, _, _, _ => none
  | n_ + 1, v3, v5, v7, D =>
    (if v2 ≤ v7 then kx v3 v5 D else (L_X12_lookedNow_76 (fun (v9_133 : Int32) (D_133 : Mem) => (if v9_133 = ((1 <<< ((D_133 0 30) &&& 31)) - 1) then lt_ (v3 + 1) (fun v3_149 => Option.bind (f_X12_greatest D_133) (fun r_153 => (if r_153 < v1 then (B_X12_lookedNow_165 v5 0 v3_149 v7 D_133 (L_X12_lookedNow_60 v1 v2 kx n_)) else (B_X12_lookedNow_165 v5 1 v3_149 v7 D_133 (L_X12_lookedNow_60 v1 v2 kx n_))))) else (B_X12_lookedNow_168 v3 v5 v7 D_133 (L_X12_lookedNow_60 v1 v2 kx n_)))) FU v7 0 0 D))
def f_X12_lookedNow (D : Mem) : Option (Int32 × Mem) :=
  Option.bind (f_X12_gathers D) (fun D_1 => (if (D_1 0 26) = 0 then some ((-3), D_1) else (if 2 ≤ (D_1 0 30) then Option.bind (f_X12_greatest D_1) (fun r_23 => (L_X12_lookedNow_31 D_1 (fun (v2_52 : Int32) => (L_X12_lookedNow_60 r_23 v2_52 (fun (v3_174 : Int64) (v5_174 : Int64) (D_174 : Mem) => gd (decide (¬ v3_174 = 0)) (some ((((1000000 * v5_174) / v3_174).toInt32), D_174))) FU 0 0 0 D_1)) FU 1 0)) else some ((-3), D_1))))
/-! TenCoinsModel.looked.()I -/
def f_X12_looked (D : Mem) : Option (Int32 × Mem) :=
  bnd2 (f_X12_lookedNow D) (fun r_1 D_1 => some (r_1, D_1))
/-! TenCoinsModel.spanOf.(I)I -/
def f_X12_spanOf (v0 : Int32) : Int32 :=
  (if 4 ≤ v0 then (if 7 ≤ v0 then 2 else 1) else 0)
/-! TenCoinsModel.story.(III)I -/
def f_X12_story (v1 : Int32) (v2 : Int32) (v3 : Int32) (D : Mem) : Option (Int32 × Mem) :=
  (if (f_X12_in v1 0 2) = true then (if (f_X12_in v2 0 2) = true then (if (f_X12_in v3 1 15) = true then gd (inb ((3 * v1) + v2) 9) (lt_ (D 23 ((3 * v1) + v2).toNatClampNeg) (fun v4_41 => gd (inb ((3 * v1) + v2) 9) (sto D 23 ((3 * v1) + v2).toNatClampNeg v3 (fun D_53 => some (v4_41, D_53))))) else some ((-2), D)) else some ((-2), D)) else some ((-2), D))
/-! TenCoinsModel.partOf.(II)J -/
def B_X12_partOf_71 (v3 : Int64) (v5 : Int32) (kb : Int64 → Int32 → Option Int64) : Option Int64 :=
  lt_ (v5 + 1) (fun v5_71 => kb v3 v5_71)
def B_X12_partOf_69 (x0 : Int64) (x1 : Int64) (v5 : Int32) (kb : Int64 → Int32 → Option Int64) : Option Int64 :=
  lt_ (x0 * x1) (fun v3_70 => (B_X12_partOf_71 v3_70 v5 kb))
def L_X12_partOf_5 (v1 : Int32) (v2 : Int32) (D : Mem) (kx : Int64 → Option Int64) : Nat → Int64 → Int32 → Option Int64
  | 0, _, _ => none
  | n_ + 1, v3, v5 =>
    (if (D 0 0) ≤ v5 then kx v3 else Option.bind (f_X12_isOf v5 v1 0 D) (fun r_19 => (if r_19 = true then gd (inb v5 60) (gd (inb ((3 * v2) + (f_X12_spanOf (D 3 v5.toNatClampNeg))) 9) (lt_ (D 23 ((3 * v2) + (f_X12_spanOf (D 3 v5.toNatClampNeg))).toNatClampNeg) (fun v6_44 => gd (inb v5 60) ((if (D 4 v5.toNatClampNeg) = 0 then (B_X12_partOf_69 v3 (v6_44.toInt64) v5 (L_X12_partOf_5 v1 v2 D kx n_)) else (B_X12_partOf_69 v3 ((16 - v6_44).toInt64) v5 (L_X12_partOf_5 v1 v2 D kx n_))))))) else (B_X12_partOf_71 v3 v5 (L_X12_partOf_5 v1 v2 D kx n_)))))
def f_X12_partOf (v1 : Int32) (v2 : Int32) (D : Mem) : Option Int64 :=
  (L_X12_partOf_5 v1 v2 D (fun (v3_77 : Int64) => some v3_77) FU 1 0)
/-! TenCoinsModel.odds.(III)J -/
def B_X12_odds_25 : Option Int64 :=
  some (f_X12_no (-2))
def f_X12_odds (v1 : Int32) (v2 : Int32) (v3 : Int32) (D : Mem) : Option Int64 :=
  (if (f_X12_isAny v1) = true then (if (f_X12_in v2 0 2) = true then (if (f_X12_in v3 0 1) = true then Option.bind (f_X12_countOf v1 0 D) (fun r_34 => (if r_34 ≤ 14 then Option.bind (f_X12_partOf v1 v2 D) (fun r_51 => Option.bind (f_X12_partOf v1 0 D) (fun r_57 => Option.bind (f_X12_partOf v1 1 D) (fun r_63 => Option.bind (f_X12_partOf v1 2 D) (fun r_70 => Option.bind (f_X12_lowest r_51 ((r_57 + r_63) + r_70) v3) (fun r_75 => some r_75))))) else some (f_X12_no (-4)))) else B_X12_odds_25) else B_X12_odds_25) else B_X12_odds_25)
/-! TenCoinsModel.round.(II)I -/
def f_X12_round (v1 : Int32) (v2 : Int32) (D : Mem) : Option (Int32 × Mem) :=
  (if (f_X12_isOffer v1) = true then (if (f_X12_in v2 0 1) = true then (if (D 0 32) = 24 then some ((-4), D) else gd (inb (D 0 32) 24) (sto D 24 (D 0 32).toNatClampNeg v1 (fun D_40 => gd (inb (D_40 0 32) 24) (sto D_40 25 (D_40 0 32).toNatClampNeg v2 (fun D_50 => sto D_50 0 32 ((D_50 0 32) + 1) (fun D_58 => some ((D_58 0 32), D_58))))))) else some ((-2), D)) else some ((-2), D))
/-! TenCoinsModel.forget.()I -/
def f_X12_forget (D : Mem) : Option (Int32 × Mem) :=
  lt_ (D 0 32) (fun v1_4 => sto D 0 32 0 (fun D_7 => some (v1_4, D_7)))
/-! TenCoinsModel.missesOf.(II)I -/
def B_X12_missesOf_72 (x0 : Int32) (v3 : Int32) (v4 : Int32) (D : Mem) (kb : Int32 → Int32 → Option Int32) : Option Int32 :=
  gd (inb (v4 + 1) 24) (lt_ (v3 + (f_X12_amount ((D 24 (v4 + 1).toNatClampNeg) - x0))) (fun v3_91 => lt_ (v4 + 1) (fun v4_92 => kb v3_91 v4_92)))
def B_X12_missesOf_47 (x0 : Int32) (v3 : Int32) (v4 : Int32) (D : Mem) (kb : Int32 → Int32 → Option Int32) : Option Int32 :=
  (if 0 ≤ x0 then (if x0 ≤ 10 then (B_X12_missesOf_72 x0 v3 v4 D kb) else (B_X12_missesOf_72 10 v3 v4 D kb)) else (B_X12_missesOf_72 0 v3 v4 D kb))
def L_X12_missesOf_5 (v1 : Int32) (v2 : Int32) (D : Mem) (kx : Int32 → Option Int32) : Nat → Int32 → Int32 → Option Int32
  | 0, _, _ => none
  | n_ + 1, v3, v4 =>
    (if (D 0 32) ≤ (v4 + 1) then kx v3 else gd (inb v4 24) ((if (D 25 v4.toNatClampNeg) = 0 then gd (inb v4 24) ((B_X12_missesOf_47 ((D 24 v4.toNatClampNeg) + v1) v3 v4 D (L_X12_missesOf_5 v1 v2 D kx n_))) else gd (inb v4 24) ((B_X12_missesOf_47 ((D 24 v4.toNatClampNeg) - v2) v3 v4 D (L_X12_missesOf_5 v1 v2 D kx n_))))))
def f_X12_missesOf (v1 : Int32) (v2 : Int32) (D : Mem) : Option Int32 :=
  (L_X12_missesOf_5 v1 v2 D (fun (v3_98 : Int32) => some v3_98) FU 0 0)
/-! TenCoinsModel.misses.(II)I -/
def f_X12_misses (v1 : Int32) (v2 : Int32) (D : Mem) : Option Int32 :=
  (if (f_X12_in v1 0 4) = true then (if (f_X12_in v2 0 4) = true then Option.bind (f_X12_missesOf v1 v2 D) (fun r_21 => some r_21) else some (-2)) else some (-2))
/-! TenCoinsModel.gotNow.()I -/
def B_X12_gotNow_36 (x0 : Int32) (x1 : Int32) (v2 : Int32) (kb : Int32 → Int32 → Option Int32) : Option Int32 :=
  lt_ (x0 + x1) (fun v1_37 => lt_ (v2 + 1) (fun v2_38 => kb v1_37 v2_38))
def L_X12_gotNow_4 (D : Mem) (kx : Int32 → Option Int32) : Nat → Int32 → Int32 → Option Int32
  | 0, _, _ => none
  | n_ + 1, v1, v2 =>
    (if (D 0 32) ≤ v2 then kx v1 else gd (inb v2 24) ((if (D 25 v2.toNatClampNeg) = 1 then gd (inb v2 24) ((B_X12_gotNow_36 v1 (10 - (D 24 v2.toNatClampNeg)) v2 (L_X12_gotNow_4 D kx n_))) else (B_X12_gotNow_36 v1 0 v2 (L_X12_gotNow_4 D kx n_)))))
def f_X12_gotNow (D : Mem) : Option Int32 :=
  (L_X12_gotNow_4 D (fun (v1_44 : Int32) => some v1_44) FU 0 0)
/-! TenCoinsModel.couldNow.()I -/
def B_X12_couldNow_55 (x0 : Int32) (x1 : Int32) (v4 : Int32) (kb : Int32 → Int32 → Option Int32) : Option Int32 :=
  lt_ (x0 + x1) (fun v3_56 => lt_ (v4 + 1) (fun v4_57 => kb v3_56 v4_57))
def B_X12_couldNow_54 (x0 : Int32) (v4 : Int32) (kb : Int32 → Int32 → Option Int32) : Option Int32 :=
  (B_X12_couldNow_55 x0 0 v4 kb)
def L_X12_couldNow_15 (v2 : Int32) (D : Mem) (kx : Int32 → Option Int32) : Nat → Int32 → Int32 → Option Int32
  | 0, _, _ => none
  | n_ + 1, v3, v4 =>
    (if (D 0 32) ≤ v4 then kx v3 else gd (inb v4 24) ((if (D 25 v4.toNatClampNeg) = 1 then gd (inb v4 24) ((if v2 < (D 24 v4.toNatClampNeg) then (B_X12_couldNow_54 v3 v4 (L_X12_couldNow_15 v2 D kx n_)) else (B_X12_couldNow_55 v3 (10 - v2) v4 (L_X12_couldNow_15 v2 D kx n_)))) else (B_X12_couldNow_54 v3 v4 (L_X12_couldNow_15 v2 D kx n_)))))
def B_X12_couldNow_73 (x0 : Int32) (v2 : Int32) (kb : Int32 → Int32 → Option Int32) : Option Int32 :=
  lt_ (v2 + 1) (fun v2_74 => kb x0 v2_74)
def L_X12_couldNow_4 (D : Mem) (kx : Int32 → Option Int32) : Nat → Int32 → Int32 → Option Int32
  | 0, _, _ => none
  | n_ + 1, v1, v2 =>
    (if 11 ≤ v2 then kx v1 else (L_X12_couldNow_15 v2 D (fun (v3_63 : Int32) => (if v3_63 ≤ v1 then (B_X12_couldNow_73 v1 v2 (L_X12_couldNow_4 D kx n_)) else (B_X12_couldNow_73 v3_63 v2 (L_X12_couldNow_4 D kx n_)))) FU 0 0))
def f_X12_couldNow (D : Mem) : Option Int32 :=
  (L_X12_couldNow_4 D (fun (v1_80 : Int32) => some v1_80) FU 0 0)
/-! TenCoinsModel.learntNow.(I)I -/
def B_X12_learntNow_91 (x0 : Int32) (v2 : Int32) (v4 : Int32) (kb : Int32 → Int32 → Int32 → Option Int32) : Option Int32 :=
  lt_ (v4 + 1) (fun v4_92 => kb v2 x0 v4_92)
def B_X12_learntNow_78 (x0 : Int32) (v3 : Int32) (v4 : Int32) (v5 : Int32) (kb : Int32 → Int32 → Int32 → Option Int32) : Option Int32 :=
  (if v3 ≤ v5 then (B_X12_learntNow_91 v3 x0 v4 kb) else (B_X12_learntNow_91 v5 x0 v4 kb))
def L_X12_learntNow_45 (D : Mem) (kx : Int32 → Int32 → Option Int32) : Nat → Int32 → Int32 → Int32 → Option Int32
  | 0, _, _, _ => none
  | n_ + 1, v2, v3, v4 =>
    (if 25 ≤ v4 then kx v2 v3 else Option.bind (f_X12_missesOf (v4 / 5) (v4 - v4 / 5 * 5) D) (fun r_61 => (if v3 ≤ r_61 then (B_X12_learntNow_78 v2 v3 v4 r_61 (L_X12_learntNow_45 D kx n_)) else (B_X12_learntNow_78 v4 v3 v4 r_61 (L_X12_learntNow_45 D kx n_)))))
def f_X12_learntNow (v1 : Int32) (D : Mem) : Option Int32 :=
  (if v1 ≤ 2 then (if 2 ≤ (D 0 32) then Option.bind (f_X12_missesOf 0 0 D) (fun r_38 => (L_X12_learntNow_45 D (fun (v2_98 : Int32) (v3_98 : Int32) => (if v1 = 0 then some (v2_98 / 5) else (if v1 = 1 then some (v2_98 - v2_98 / 5 * 5) else some v3_98))) FU 0 r_38 1)) else some (-3)) else (if v1 = 3 then Option.bind (f_X12_gotNow D) (fun r_11 => some r_11) else Option.bind (f_X12_couldNow D) (fun r_18 => some r_18)))
/-! TenCoinsModel.learnt.(I)I -/
def f_X12_learnt (v1 : Int32) (D : Mem) : Option Int32 :=
  (if (f_X12_in v1 0 4) = true then Option.bind (f_X12_learntNow v1 D) (fun r_11 => some r_11) else some (-2))
/-! TenCoinsModel.sheet.(III)I -/
def L_X12_sheet_59 (v1 : Int32) (kx : Mem → Option (Int32 × Mem)) : Nat → Int32 → Mem → Option (Int32 × Mem)
  | 0, _, _ => none
  | n_ + 1, v4, D =>
    (if 48 ≤ v4 then kx D else gd (inb ((48 * v1) + v4) 192) (sto D 29 ((48 * v1) + v4).toNatClampNeg 0 (fun D_78 => lt_ (v4 + 1) (fun v4_79 => L_X12_sheet_59 v1 kx n_ v4_79 D_78))))
def f_X12_sheet (v1 : Int32) (v2 : Int32) (v3 : Int32) (D : Mem) : Option (Int32 × Mem) :=
  (if (f_X12_isSheet v1) = true then (if (f_X12_in v2 0 2) = true then (if v3 ≤ 48 then (if 0 ≤ v3 then gd (inb v1 4) (sto D 26 v1.toNatClampNeg (vp_nar .boolean 1) (fun D_41 => gd (inb v1 4) (sto D_41 27 v1.toNatClampNeg v2 (fun D_48 => gd (inb v1 4) (sto D_48 28 v1.toNatClampNeg v3 (fun D_55 => (L_X12_sheet_59 v1 (fun (D_85 : Mem) => some (v3, D_85)) FU 0 D_55))))))) else bnd2 (f_X12_meets 5 D) (fun r_31 D_31 => some (r_31, D_31))) else some ((-2), D)) else some ((-2), D)) else some ((-2), D))
/-! TenCoinsModel.lose.(I)I -/
def f_X12_lose (v1 : Int32) (D : Mem) : Option (Int32 × Mem) :=
  (if (f_X12_isSheet v1) = true then gd (inb v1 4) ((if (D 26 v1.toNatClampNeg) = 0 then bnd2 (f_X12_meets 1 D) (fun r_21 D_21 => some (r_21, D_21)) else gd (inb v1 4) (sto D 26 v1.toNatClampNeg (vp_nar .boolean 0) (fun D_31 => gd (inb v1 4) (some ((D_31 28 v1.toNatClampNeg), D_31)))))) else some ((-2), D))
/-! TenCoinsModel.lacks.(III)I -/
def f_X12_lacks (v1 : Int32) (v2 : Int32) (v3 : Int32) (D : Mem) : Option Int32 :=
  gd (inb v1 4) ((if (D 26 v1.toNatClampNeg) = 0 then some 1 else gd (inb v1 4) ((if (D 27 v1.toNatClampNeg) = v2 then gd (inb v1 4) ((if (f_X12_in v3 0 ((D 28 v1.toNatClampNeg) - 1)) = true then some 0 else some 2)) else some 3))))
/-! TenCoinsModel.keep.(III)V -/
def B_X12_keep_40 (x1 : Int32) (x2 : Int32) (D : Mem) : Option Mem :=
  gd (inb x1 192) (sto D 29 x1.toNatClampNeg x2 (fun D_40 => some D_40))
def f_X12_keep (v1 : Int32) (v2 : Int32) (v3 : Int32) (D : Mem) : Option Mem :=
  gd (inb v1 4) ((if (D 27 v1.toNatClampNeg) = 0 then (B_X12_keep_40 ((48 * v1) + v2) (v3.toInt8.toInt32) D) else gd (inb v1 4) ((if (D 27 v1.toNatClampNeg) = 1 then (B_X12_keep_40 ((48 * v1) + v2) (v3.toInt16.toInt32) D) else (B_X12_keep_40 ((48 * v1) + v2) v3 D)))))
/-! TenCoinsModel.put.(IIII)I -/
def f_X12_put (v1 : Int32) (v2 : Int32) (v3 : Int32) (v4 : Int32) (D : Mem) : Option (Int32 × Mem) :=
  (if (f_X12_isSheet v1) = true then (if (f_X12_in v2 0 2) = true then Option.bind (f_X12_lacks v1 v2 v3 D) (fun r_23 => (if r_23 ≤ 0 then Option.bind (f_X12_keep v1 v3 v4 D) (fun D_45 => some (1, D_45)) else bnd2 (f_X12_meets r_23 D) (fun r_36 D_36 => some (r_36, D_36)))) else some ((-2), D)) else some ((-2), D))
/-! TenCoinsModel.get.(III)I -/
def f_X12_get (v1 : Int32) (v2 : Int32) (v3 : Int32) (D : Mem) : Option (Int32 × Mem) :=
  (if (f_X12_isSheet v1) = true then (if (f_X12_in v2 0 2) = true then Option.bind (f_X12_lacks v1 v2 v3 D) (fun r_24 => (if r_24 ≤ 0 then gd (inb ((48 * v1) + v3) 192) (some ((D 29 ((48 * v1) + v3).toNatClampNeg), D)) else sto D 0 40 r_24 (fun D_37 => some ((-2147483648), D_37)))) else some ((-2147483648), D)) else some ((-2147483648), D))
/-! TenCoinsModel.copy.(IIIII)I -/
def B_X12_copy_35 (D : Mem) : Option (Int32 × Mem) :=
  bnd2 (f_X12_meets 1 D) (fun r_37 D_37 => some (r_37, D_37))
def B_X12_copy_111 (D : Mem) : Option (Int32 × Mem) :=
  bnd2 (f_X12_meets 2 D) (fun r_113 D_113 => some (r_113, D_113))
def L_X12_copy_120 (v1 : Int32) (v2 : Int32) (v5 : Int32) (kx : Mem → Option (Int32 × Mem)) : Nat → Int32 → Mem → Option (Int32 × Mem)
  | 0, _, _ => none
  | n_ + 1, v6, D =>
    (if v5 ≤ v6 then kx D else gd (inb (((48 * v1) + v2) + v6) 192) (gd (inb v6 48) (sto D 30 v6.toNatClampNeg (D 29 (((48 * v1) + v2) + v6).toNatClampNeg) (fun D_147 => lt_ (v6 + 1) (fun v6_148 => L_X12_copy_120 v1 v2 v5 kx n_ v6_148 D_147)))))
def L_X12_copy_157 (v3 : Int32) (v4 : Int32) (v5 : Int32) (kx : Mem → Option (Int32 × Mem)) : Nat → Int32 → Mem → Option (Int32 × Mem)
  | 0, _, _ => none
  | n_ + 1, v6, D =>
    (if v5 ≤ v6 then kx D else gd (inb v6 48) (gd (inb (((48 * v3) + v4) + v6) 192) (sto D 29 (((48 * v3) + v4) + v6).toNatClampNeg (D 30 v6.toNatClampNeg) (fun D_185 => lt_ (v6 + 1) (fun v6_186 => L_X12_copy_157 v3 v4 v5 kx n_ v6_186 D_185)))))
def f_X12_copy (v1 : Int32) (v2 : Int32) (v3 : Int32) (v4 : Int32) (v5 : Int32) (D : Mem) : Option (Int32 × Mem) :=
  (if (f_X12_isSheet v1) = true then (if (f_X12_isSheet v3) = true then gd (inb v1 4) ((if (D 26 v1.toNatClampNeg) = 0 then (B_X12_copy_35 D) else gd (inb v3 4) ((if (D 26 v3.toNatClampNeg) = 0 then (B_X12_copy_35 D) else gd (inb v1 4) (gd (inb v3 4) ((if (D 27 v1.toNatClampNeg) = (D 27 v3.toNatClampNeg) then (if v2 < 0 then (B_X12_copy_111 D) else (if v4 < 0 then (B_X12_copy_111 D) else (if v5 < 0 then (B_X12_copy_111 D) else gd (inb v1 4) ((if 0 < (lg_cmp ((v2.toInt64) + (v5.toInt64)) ((D 28 v1.toNatClampNeg).toInt64)) then (B_X12_copy_111 D) else gd (inb v3 4) ((if (lg_cmp ((v4.toInt64) + (v5.toInt64)) ((D 28 v3.toNatClampNeg).toInt64)) ≤ 0 then (L_X12_copy_120 v1 v2 v5 (fun (D_154 : Mem) => (L_X12_copy_157 v3 v4 v5 (fun (D_192 : Mem) => some (1, D_192)) FU 0 D_154)) FU 0 D) else (B_X12_copy_111 D)))))))) else bnd2 (f_X12_meets 4 D) (fun r_58 D_58 => some (r_58, D_58))))))))) else some ((-2), D)) else some ((-2), D))
/-! TenCoinsModel.write.(III)I -/
def B_X12_write_93 (v4 : Int32) (v5 : Int32) (D : Mem) (kb : Int32 → Int32 → Mem → Option (Int32 × Mem)) : Option (Int32 × Mem) :=
  lt_ (v5 + 1) (fun v5_93 => kb v4 v5_93 D)
def L_X12_write_45 (v1 : Int32) (v2 : Int32) (v3 : Int32) (kx : Int32 → Mem → Option (Int32 × Mem)) : Nat → Int32 → Int32 → Mem → Option (Int32 × Mem)
  | 0, _, _, _ => none
  | n_ + 1, v4, v5, D =>
    (if (D 0 0) ≤ v5 then kx v4 D else gd (inb v3 4) ((if (D 28 v3.toNatClampNeg) ≤ v4 then kx v4 D else Option.bind (f_X12_isOf v5 v1 v2 D) (fun r_70 => (if r_70 = true then gd (inb v5 60) (Option.bind (f_X12_keep v3 v4 (D 3 v5.toNatClampNeg) D) (fun D_87 => lt_ (v4 + 1) (fun v4_90 => (B_X12_write_93 v4_90 v5 D_87 (L_X12_write_45 v1 v2 v3 kx n_))))) else (B_X12_write_93 v4 v5 D (L_X12_write_45 v1 v2 v3 kx n_)))))))
def f_X12_write (v1 : Int32) (v2 : Int32) (v3 : Int32) (D : Mem) : Option (Int32 × Mem) :=
  (if (f_X12_isAny v1) = true then (if (f_X12_isKind v2) = true then (if (f_X12_isSheet v3) = true then gd (inb v3 4) ((if (D 26 v3.toNatClampNeg) = 0 then bnd2 (f_X12_meets 1 D) (fun r_35 D_35 => some (r_35, D_35)) else (L_X12_write_45 v1 v2 v3 (fun (v4_99 : Int32) (D_99 : Mem) => some (v4_99, D_99)) FU 0 0 D))) else some ((-2), D)) else some ((-2), D)) else some ((-2), D))
/-! TenCoinsModel.knownMany.()I -/
def B_X12_knownMany_26 (x0 : Int32) (x1 : Int32) (v2 : Int32) (kb : Int32 → Int32 → Option Int32) : Option Int32 :=
  lt_ (x0 + x1) (fun v1_27 => lt_ (v2 + 1) (fun v2_28 => kb v1_27 v2_28))
def L_X12_knownMany_4 (D : Mem) (kx : Int32 → Option Int32) : Nat → Int32 → Int32 → Option Int32
  | 0, _, _ => none
  | n_ + 1, v1, v2 =>
    (if (D 0 0) ≤ v2 then kx v1 else Option.bind (f_X12_counts v2 D) (fun r_15 => (if r_15 = true then (B_X12_knownMany_26 v1 1 v2 (L_X12_knownMany_4 D kx n_)) else (B_X12_knownMany_26 v1 0 v2 (L_X12_knownMany_4 D kx n_)))))
def f_X12_knownMany (D : Mem) : Option Int32 :=
  (L_X12_knownMany_4 D (fun (v1_34 : Int32) => some v1_34) FU 0 0)
/-! TenCoinsModel.count.(I)I -/
def f_X12_count (v1 : Int32) (D : Mem) : Option Int32 :=
  (if v1 = 0 then some (D 0 0) else (if v1 = 1 then Option.bind (f_X12_knownMany D) (fun r_58 => some r_58) else (if v1 = 2 then some (D 0 9) else (if v1 = 3 then some (D 0 12) else (if v1 = 4 then some (D 0 15) else (if v1 = 5 then some (D 0 26) else (if v1 = 6 then some (D 0 32) else (if v1 = 7 then some (D 0 8) else (if v1 = 8 then some (D 0 40) else some (-2))))))))))
/-! TenCoinsModel.digest.()J -/
def L_X12_digest_6 (D : Mem) (kx : Int64 → Option (Int64 × Mem)) : Nat → Int64 → Int32 → Option (Int64 × Mem)
  | 0, _, _ => none
  | n_ + 1, v1, v3 =>
    (if 8 ≤ v3 then kx v1 else Option.bind (f_X12_count v3 D) (fun r_19 => lt_ ((31 * v1) + (r_19.toInt64)) (fun v1_24 => lt_ (v3 + 1) (fun v3_25 => L_X12_digest_6 D kx n_ v1_24 v3_25))))
def L_X12_digest_53 (v3 : Int32) (D : Mem) (kx : Int64 → Option (Int64 × Mem)) : Nat → Int64 → Int32 → Option (Int64 × Mem)
  | 0, _, _ => none
  | n_ + 1, v1, v4 =>
    (if 4 ≤ v4 then kx v1 else Option.bind (f_X12_manyNow v3 v4 0 D) (fun r_69 => lt_ ((31 * v1) + (r_69.toInt64)) (fun v1_74 => Option.bind (f_X12_manyNow v3 v4 1 D) (fun r_85 => lt_ ((31 * v1_74) + (r_85.toInt64)) (fun v1_90 => lt_ (v4 + 1) (fun v4_91 => L_X12_digest_53 v3 D kx n_ v1_90 v4_91))))))
def L_X12_digest_45 (D : Mem) (kx : Int64 → Option (Int64 × Mem)) : Nat → Int64 → Int32 → Option (Int64 × Mem)
  | 0, _, _ => none
  | n_ + 1, v1, v3 =>
    (if 4 ≤ v3 then kx v1 else (L_X12_digest_53 v3 D (fun (v1_97 : Int64) => lt_ (v3 + 1) (fun v3_97 => L_X12_digest_45 D kx n_ v1_97 v3_97)) FU v1 0))
def L_X12_digest_157 (v3 : Int32) (D : Mem) (kx : Int64 → Option (Int64 × Mem)) : Nat → Int64 → Int32 → Option (Int64 × Mem)
  | 0, _, _ => none
  | n_ + 1, v1, v4 =>
    (if 3 ≤ v4 then kx v1 else Option.bind (f_X12_lineNow v3 v4 D) (fun r_172 => lt_ ((31 * v1) + (r_172.toInt64)) (fun v1_177 => lt_ (v4 + 1) (fun v4_178 => L_X12_digest_157 v3 D kx n_ v1_177 v4_178))))
def L_X12_digest_146 (D : Mem) (kx : Int64 → Option (Int64 × Mem)) : Nat → Int64 → Int32 → Option (Int64 × Mem)
  | 0, _, _ => none
  | n_ + 1, v1, v3 =>
    (if (D 0 9) ≤ v3 then kx v1 else (L_X12_digest_157 v3 D (fun (v1_184 : Int64) => lt_ (v3 + 1) (fun v3_184 => L_X12_digest_146 D kx n_ v1_184 v3_184)) FU v1 0))
def L_X12_digest_192 (D : Mem) (kx : Int64 → Option (Int64 × Mem)) : Nat → Int64 → Int32 → Option (Int64 × Mem)
  | 0, _, _ => none
  | n_ + 1, v1, v3 =>
    (if (D 0 12) ≤ v3 then kx v1 else Option.bind (f_X12_hisNow v3 D) (fun r_207 => lt_ ((31 * v1) + (r_207.toInt64)) (fun v1_212 => lt_ (v3 + 1) (fun v3_213 => L_X12_digest_192 D kx n_ v1_212 v3_213))))
def L_X12_digest_221 (kx : Int64 → Mem → Option (Int64 × Mem)) : Nat → Int64 → Int32 → Mem → Option (Int64 × Mem)
  | 0, _, _, _ => none
  | n_ + 1, v1, v3, D =>
    (if 6 ≤ v3 then kx v1 D else bnd2 (f_X12_reckonNow 0 v3 D) (fun r_235 D_235 => lt_ ((31 * v1) + (r_235.toInt64)) (fun v1_240 => lt_ (v3 + 1) (fun v3_241 => L_X12_digest_221 kx n_ v1_240 v3_241 D_235))))
def L_X12_digest_249 (kx : Int64 → Mem → Option (Int64 × Mem)) : Nat → Int64 → Int32 → Mem → Option (Int64 × Mem)
  | 0, _, _, _ => none
  | n_ + 1, v1, v3, D =>
    (if 3 ≤ v3 then kx v1 D else bnd2 (f_X12_reckonNow 4 v3 D) (fun r_262 D_262 => lt_ ((31 * v1) + (r_262.toInt64)) (fun v1_267 => lt_ (v3 + 1) (fun v3_268 => L_X12_digest_249 kx n_ v1_267 v3_268 D_262))))
def L_X12_digest_288 (kx : Int64 → Mem → Option (Int64 × Mem)) : Nat → Int64 → Int32 → Mem → Option (Int64 × Mem)
  | 0, _, _, _ => none
  | n_ + 1, v1, v3, D =>
    (if (D 0 26) ≤ v3 then kx v1 D else bnd2 (f_X12_goesNow v3 D) (fun r_303 D_303 => lt_ ((31 * v1) + (r_303.toInt64)) (fun v1_308 => lt_ (v3 + 1) (fun v3_309 => L_X12_digest_288 kx n_ v1_308 v3_309 D_303))))
def L_X12_digest_329 (D : Mem) (kx : Int64 → Option (Int64 × Mem)) : Nat → Int64 → Int32 → Option (Int64 × Mem)
  | 0, _, _ => none
  | n_ + 1, v1, v3 =>
    (if 5 ≤ v3 then kx v1 else Option.bind (f_X12_learntNow v3 D) (fun r_341 => lt_ ((31 * v1) + (r_341.toInt64)) (fun v1_346 => lt_ (v3 + 1) (fun v3_347 => L_X12_digest_329 D kx n_ v1_346 v3_347))))
def f_X12_digest (D : Mem) : Option (Int64 × Mem) :=
  (L_X12_digest_6 D (fun (v1_31 : Int64) => bnd2 (f_X12_faultNow D) (fun r_37 D_37 => lt_ ((31 * v1_31) + (r_37.toInt64)) (fun v1_42 => (L_X12_digest_45 D_37 (fun (v1_103 : Int64) => Option.bind (f_X12_meanNow (-1) 0 0 D_37) (fun r_112 => lt_ ((31 * v1_103) + r_112) (fun v1_116 => Option.bind (f_X12_meanNow (-1) 0 1 D_37) (fun r_126 => lt_ ((31 * v1_116) + r_126) (fun v1_130 => Option.bind (f_X12_bestNow (-1) D_37) (fun r_138 => lt_ ((31 * v1_130) + (r_138.toInt64)) (fun v1_143 => (L_X12_digest_146 D_37 (fun (v1_190 : Int64) => (L_X12_digest_192 D_37 (fun (v1_219 : Int64) => (L_X12_digest_221 (fun (v1_247 : Int64) (D_247 : Mem) => (L_X12_digest_249 (fun (v1_274 : Int64) (D_274 : Mem) => bnd2 (f_X12_temperNow D_274) (fun r_280 D_280 => lt_ ((31 * v1_274) + (r_280.toInt64)) (fun v1_285 => (L_X12_digest_288 (fun (v1_315 : Int64) (D_315 : Mem) => bnd2 (f_X12_lookedNow D_315) (fun r_321 D_321 => lt_ ((31 * v1_315) + (r_321.toInt64)) (fun v1_326 => (L_X12_digest_329 D_321 (fun (v1_353 : Int64) => some (v1_353, D_321)) FU v1_326 0)))) FU v1_285 0 D_280)))) FU v1_247 0 D_247)) FU v1_219 0 D_37)) FU v1_190 0)) FU v1_143 0)))))))) FU v1_42 (-1))))) FU 17 0)
