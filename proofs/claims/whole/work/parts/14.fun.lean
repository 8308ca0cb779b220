noncomputable def f_X6_areBothWrong (a1 : Int32) (a2 : Int32) (a3 : Int32) (s : St) : Option Bool :=
  gd (inb a3 12) (bv (s.1 11 a3.toNatClampNeg) (fun v1 => gd (inb a1 10) (gd (inb a3 12) (bv (s.1 (WC.2.2 32 a1.toNatClampNeg) a3.toNatClampNeg) (fun v2 => gd (inb a2 10) (gd (inb a3 12) (bv (s.1 (WC.2.2 32 a2.toNatClampNeg) a3.toNatClampNeg) (fun v3 => (if v1 = 0 then some false else (if v2 = 0 then some false else (if v3 = 0 then some false else (if v2 = v1 then some false else (if v3 = v1 then some false else some true)))))))))))))
noncomputable def L_X6_sameWrongs_5 (a1 : Int32) (a2 : Int32) (s : St) (r1 : (Int32 × Int32) → Option Int32) (x2 : Int32 × Int32) : Option Int32 :=
  (if x2.1 < (s.1 1 2) then (f_X6_areBothWrong a1 a2 x2.1 s).bind (fun v3 => (if v3 = true then gd (inb a1 10) (gd (inb x2.1 12) (gd (inb a2 10) (gd (inb x2.1 12) ((if (s.1 (WC.2.2 32 a1.toNatClampNeg) x2.1.toNatClampNeg) = (s.1 (WC.2.2 32 a2.toNatClampNeg) x2.1.toNatClampNeg) then r1 (x2.1 + 1, x2.2 + 1) else r1 (x2.1 + 1, x2.2)))))) else r1 (x2.1 + 1, x2.2))) else some x2.2)
noncomputable def f_X6_sameWrongs (a1 : Int32) (a2 : Int32) (s : St) : Option Int32 :=
  lp (L_X6_sameWrongs_5 a1 a2 s) NN (0, 0)
noncomputable def f_J9_abs_0f7a4 (a0 : Int32) (s : St) : Option Int32 :=
  (if a0 < 0 then some (0 - a0) else some a0)
noncomputable def f_X7_areNear (a1 : Int32) (a2 : Int32) (s : St) : Option Bool :=
  gd (inb a1 10) (gd (inb a2 10) ((f_J9_abs_0f7a4 ((s.1 13 a1.toNatClampNeg) - (s.1 13 a2.toNatClampNeg)) s).bind (fun v1 => (if 1 < v1 then some false else gd (inb a1 10) (gd (inb a2 10) ((f_J9_abs_0f7a4 ((s.1 14 a1.toNatClampNeg) - (s.1 14 a2.toNatClampNeg)) s).bind (fun v2 => (if 1 < v2 then some false else some true))))))))
noncomputable def L_X6_besideInAll_19 (s : St) (r1 : (Int32 × Int32) → Option Int32) (x2 : Int32 × Int32) (r4 : (Int32 × Int32) → Option Int32) (x5 : Int32 × Int32) : Option Int32 :=
  (if x5.1 < (s.1 2 0) then (f_X7_areNear x2.1 x5.1 s).bind (fun v6 => (if v6 = true then (f_X6_sameWrongs x2.1 x5.1 s).bind (fun v7 => bv (x5.2 + v7) (fun v8 => r4 (x5.1 + 1, v8))) else r4 (x5.1 + 1, x5.2))) else r1 (x2.1 + 1, x5.2))
noncomputable def L_X6_besideInAll_4 (s : St) (r1 : (Int32 × Int32) → Option Int32) (x2 : Int32 × Int32) : Option Int32 :=
  (if x2.1 < (s.1 2 0) then bv (x2.1 + 1) (fun v3 => lp (L_X6_besideInAll_19 s r1 x2) NN (v3, x2.2)) else some x2.2)
noncomputable def f_X6_besideInAll  (s : St) : Option Int32 :=
  lp (L_X6_besideInAll_4 s) NN (0, 0)
noncomputable def L_X0_orders_4 (a0 : Int32) (r1 : (Int32 × Int64) → Option Int64) (x2 : Int32 × Int64) : Option Int64 :=
  (if a0 < x2.1 then some x2.2 else bl (x2.2 * x2.1.toInt64) (fun v3 => r1 (x2.1 + 1, v3)))
noncomputable def f_X0_orders (a0 : Int32) (s : St) : Option Int64 :=
  lp (L_X0_orders_4 a0) NN (2, 1)
noncomputable def L_X0_withNear_4 (a1 : Int32) (s : St) (r1 : (Int32 × Int32) → Option Int32) (x2 : Int32 × Int32) : Option Int32 :=
  (if x2.1 < a1 then (f_X7_areNear x2.1 a1 s).bind (fun v3 => (if v3 = true then gd (inb x2.1 7) (gd (inb a1 7) (gd (inb (((s.1 28 x2.1.toNatClampNeg) * 7) + (s.1 28 a1.toNatClampNeg)) 49) (bv (x2.2 + (s.1 27 (((s.1 28 x2.1.toNatClampNeg) * 7) + (s.1 28 a1.toNatClampNeg)).toNatClampNeg)) (fun v4 => r1 (x2.1 + 1, v4))))) else r1 (x2.1 + 1, x2.2))) else some x2.2)
noncomputable def f_X0_withNear (a1 : Int32) (s : St) : Option Int32 :=
  lp (L_X0_withNear_4 a1 s) NN (0, 0)
noncomputable def L_X0_ordersFrom_46 (a1 : Int32) (a2 : Int32) (a3 : Int32) (fo : Int32 → Int32 → Int32 → St → Option (Int64 × St)) (r1 : (Int32 × Int64 × St) → Option (Int64 × St)) (x2 : Int32 × Int64 × St) : Option (Int64 × St) :=
  (if x2.1 < (x2.2.2.1 2 0) then (if ((a2 >>> (x2.1 &&& 31)) &&& 1) = 0 then gd (inb a1 7) (bd (wI x2.2.2 28 a1.toNatClampNeg x2.1) (fun s3 => (f_X0_withNear a1 s3).bind (fun v4 => (fo (a1 + 1) (a2 ||| (1 <<< (x2.1 &&& 31))) (a3 + v4) s3).bind (fun p5 => bl (x2.2.1 + p5.1) (fun v6 => r1 (x2.1 + 1, v6, p5.2)))))) else r1 (x2.1 + 1, x2.2.1, x2.2.2)) else some (x2.2.1, x2.2.2))
noncomputable def g_X0_ordersFrom (fo : Int32 → Int32 → Int32 → St → Option (Int64 × St)) (a1 : Int32) (a2 : Int32) (a3 : Int32) (s : St) : Option (Int64 × St) :=
  (if a3 < (s.1 8 4) then (if a1 < (s.1 2 0) then (if a1 < 7 then lp (L_X0_ordersFrom_46 a1 a2 a3 fo) NN (0, 0, s) else some (0, s)) else some (0, s)) else (f_X0_orders ((s.1 2 0) - a1) s).bind (fun v7 => some (v7, s)))
noncomputable def f_X0_ordersFrom : Nat → Int32 → Int32 → Int32 → St → Option (Int64 × St)
  | 0 => fun _ _ _ _ => none
  | n + 1 => fun a1 a2 a3 s => g_X0_ordersFrom (f_X0_ordersFrom n) a1 a2 a3 s
noncomputable def L_X0_millionths_30 (r7 : (Int32 × St) → Option (Int32 × St)) (x8 : Int32 × St) (r9 : (Int32 × St) → Option (Int32 × St)) (x10 : Int32 × St) : Option (Int32 × St) :=
  (if x10.1 < (x10.2.1 2 0) then jn (fun (y12 : Int32) => gd (inb ((x8.1 * 7) + x10.1) 49) (bd (wI x10.2 27 ((x8.1 * 7) + x10.1).toNatClampNeg y12) (fun s13 => r9 (x10.1 + 1, s13)))) (fun K11 => (if x8.1 = x10.1 then K11 0 else (f_X6_sameWrongs x8.1 x10.1 x10.2).bind (fun v14 => K11 v14))) else r7 (x8.1 + 1, x10.2))
noncomputable def L_X0_millionths_17 (K1 : St → Option (Int32 × St)) (r7 : (Int32 × St) → Option (Int32 × St)) (x8 : Int32 × St) : Option (Int32 × St) :=
  (if x8.1 < (x8.2.1 2 0) then lp (L_X0_millionths_30 r7 x8) NN (0, x8.2) else K1 x8.2)
noncomputable def f_X0_millionths  (s : St) : Option (Int32 × St) :=
  (if 7 < (s.1 2 0) then some ((-4), s) else jn (fun (y2 : St) => (f_X6_besideInAll y2).bind (fun v3 => bd (wI y2 8 4 v3) (fun s4 => (f_X0_ordersFrom 9 0 0 0 s4).bind (fun p5 => (f_X0_orders (p5.2.1 2 0) p5.2).bind (fun v6 => gd (v6 != (0 : Int64)) (some (((p5.1 * 1000000) / v6).toInt32, p5.2))))))) (fun K1 => lp (L_X0_millionths_17 K1) NN (0, s)))
noncomputable def f_J9_abs_067f4 (a0 : Int64) (s : St) : Option Int64 :=
  (if a0 < 0 then some (0 - a0) else some a0)
noncomputable def L_X1_commonDivisor_9  (r1 : (Int32 × Int64 × Int64) → Option Int64) (x2 : Int32 × Int64 × Int64) : Option Int64 :=
  (if x2.1 < 100 then (if x2.2.1 = 0 then some x2.2.2 else gd (x2.2.1 != (0 : Int64)) (bl (x2.2.2 - x2.2.2 / x2.2.1 * x2.2.1) (fun v3 => r1 (x2.1 + 1, v3, x2.2.1)))) else some x2.2.2)
noncomputable def f_X1_commonDivisor (a0 : Int64) (a2 : Int64) (s : St) : Option Int64 :=
  lp (L_X1_commonDivisor_9) NN (0, a2, a0)
noncomputable def f_X1_become (a1 : Int64) (a3 : Int64) (s : St) : Option St :=
  (f_J9_abs_067f4 a1 s).bind (fun v1 => (f_X1_commonDivisor v1 a3 s).bind (fun v2 => jn (fun (y4 : Int64) => bd (wL s 10 0 y4) (fun s5 => jn (fun (y7 : Int64) => bd (wL s5 10 1 y7) (fun s8 => some s8)) (fun K6 => (if v2 = 0 then K6 1 else gd (v2 != (0 : Int64)) (K6 (a3 / v2)))))) (fun K3 => (if v2 = 0 then K3 0 else gd (v2 != (0 : Int64)) (K3 (a1 / v2))))))
noncomputable def f_X1_part (a1 : Int32) (s : St) : Option Int64 :=
  (if a1 = 0 then some (s.2 10 0) else some (s.2 10 1))
noncomputable def L_J7_fill_53178_5 (a0 : Nat) (n0 : Nat) (a1 : Int32) (v1 : Int32) (r2 : (Int32 × St) → Option St) (x3 : Int32 × St) : Option St :=
  (if x3.1 < v1 then gd (inb x3.1 n0) (bd (wI x3.2 a0 x3.1.toNatClampNeg a1) (fun s4 => r2 (x3.1 + 1, s4))) else some x3.2)
noncomputable def f_J7_fill_53178 (a0 : Nat) (n0 : Nat) (a1 : Int32) (s : St) : Option St :=
  bv (nI n0) (fun v1 => lp (L_J7_fill_53178_5 a0 n0 a1 v1) NN (0, s))
noncomputable def L_X6_bothWrongs_5 (a1 : Int32) (a2 : Int32) (s : St) (r1 : (Int32 × Int32) → Option Int32) (x2 : Int32 × Int32) : Option Int32 :=
  (if x2.1 < (s.1 1 2) then (f_X6_areBothWrong a1 a2 x2.1 s).bind (fun v3 => (if v3 = true then r1 (x2.1 + 1, x2.2 + 1) else r1 (x2.1 + 1, x2.2))) else some x2.2)
noncomputable def f_X6_bothWrongs (a1 : Int32) (a2 : Int32) (s : St) : Option Int32 :=
  lp (L_X6_bothWrongs_5 a1 a2 s) NN (0, 0)
noncomputable def L_J7_fill_d0a16_6 (a0 : Nat) (n0 : Nat) (a1 : Int64) (v1 : Int32) (r2 : (Int32 × St) → Option St) (x3 : Int32 × St) : Option St :=
  (if x3.1 < v1 then gd (inb x3.1 n0) (bd (wL x3.2 a0 x3.1.toNatClampNeg a1) (fun s4 => r2 (x3.1 + 1, s4))) else some x3.2)
noncomputable def f_J7_fill_d0a16 (a0 : Nat) (n0 : Nat) (a1 : Int64) (s : St) : Option St :=
  bv (nI n0) (fun v1 => lp (L_J7_fill_d0a16_6 a0 n0 a1 v1) NN (0, s))
noncomputable def L_X6_countChoosers_11 (a1 : Int32) (a2 : Int32) (a3 : Int32) (r2 : (Int32 × St) → Option St) (x3 : Int32 × St) : Option St :=
  (if x3.1 < (x3.2.1 2 0) then (if x3.1 = a1 then r2 (x3.1 + 1, x3.2) else (if x3.1 = a2 then r2 (x3.1 + 1, x3.2) else gd (inb x3.1 10) (gd (inb a3 12) (gd (inb (x3.2.1 (WC.2.2 32 x3.1.toNatClampNeg) a3.toNatClampNeg) 6) (gd (inb (x3.2.1 (WC.2.2 32 x3.1.toNatClampNeg) a3.toNatClampNeg) 6) (bd (wI x3.2 22 (x3.2.1 (WC.2.2 32 x3.1.toNatClampNeg) a3.toNatClampNeg).toNatClampNeg ((x3.2.1 22 (x3.2.1 (WC.2.2 32 x3.1.toNatClampNeg) a3.toNatClampNeg).toNatClampNeg) + 1)) (fun s4 => r2 (x3.1 + 1, s4)))))))) else some x3.2)
noncomputable def f_X6_countChoosers (a1 : Int32) (a2 : Int32) (a3 : Int32) (s : St) : Option St :=
  (f_J7_fill_53178 22 6 0 s).bind (fun s1 => lp (L_X6_countChoosers_11 a1 a2 a3) NN (0, s1))
noncomputable def f_J9_min_7cf53 (a0 : Int32) (a1 : Int32) (s : St) : Option Int32 :=
  (if a1 < a0 then some a1 else some a0)
noncomputable def L_X6_meet_88 (y3 : Int32 × Int64) (v4 : Int64) (r6 : (Int32 × St) → Option (Int64 × St)) (x7 : Int32 × St) : Option (Int64 × St) :=
  (if x7.1 < 0 then some (v4, x7.2) else gd (inb (x7.1 + 1) 8) (gd (inb x7.1 8) (gd (inb (x7.1 + 1) 8) (bd (wL x7.2 23 (x7.1 + 1).toNatClampNeg ((x7.2.2 23 (x7.1 + 1).toNatClampNeg) + ((x7.2.2 23 x7.1.toNatClampNeg) * y3.2))) (fun s8 => gd (inb x7.1 8) (gd (inb x7.1 8) (bd (wL s8 23 x7.1.toNatClampNeg ((s8.2 23 x7.1.toNatClampNeg) * (v4 - y3.2))) (fun s9 => r6 (x7.1 + (-1), s9)))))))))
noncomputable def L_X6_meet_16 (a3 : Int32) (s1 : St) (K2 : (Int32 × Int64) → Option (Int64 × St)) (r10 : (Int32 × Int32 × Int64) → Option (Int64 × St)) (x11 : Int32 × Int32 × Int64) : Option (Int64 × St) :=
  (if 5 < x11.1 then K2 (x11.2.1, x11.2.2) else gd (inb a3 12) ((if x11.1 = (s1.1 11 a3.toNatClampNeg) then r10 (x11.1 + 1, x11.2.1, x11.2.2) else gd (inb x11.1 6) (bv (1 + (s1.1 22 x11.1.toNatClampNeg)) (fun v12 => bl (x11.2.2 + ((v12 * v12).toInt64)) (fun v13 => bv (x11.2.1 + v12) (fun v14 => r10 (x11.1 + 1, v14, v13))))))))
noncomputable def f_X6_meet (a1 : Int32) (a2 : Int32) (a3 : Int32) (a4 : Int32) (s : St) : Option (Int64 × St) :=
  (f_X6_countChoosers a1 a2 a3 s).bind (fun s1 => jn (fun (y3 : Int32 × Int64) => bl ((y3.1 * y3.1).toInt64) (fun v4 => (f_J9_min_7cf53 a4 6 s1).bind (fun v5 => lp (L_X6_meet_88 y3 v4) NN (v5, s1)))) (fun K2 => lp (L_X6_meet_16 a3 s1 K2) NN (1, 0, 0)))
noncomputable def L_X6_reckonChance_92 (y5 : Int32 × Int64 × St) (K7 : Int64 → Option (Bool × St)) (r10 : (Int32 × Int64) → Option (Bool × St)) (x11 : Int32 × Int64) : Option (Bool × St) :=
  (if y5.1 < x11.1 then K7 x11.2 else gd (inb x11.1 8) (bl (x11.2 + (y5.2.2.2 23 x11.1.toNatClampNeg)) (fun v12 => r10 (x11.1 + 1, v12))))
noncomputable def L_X6_reckonChance_36 (a1 : Int32) (a2 : Int32) (K4 : (Int32 × Int64 × St) → Option (Bool × St)) (r13 : (Int32 × Int32 × Int64 × St) → Option (Bool × St)) (x14 : Int32 × Int32 × Int64 × St) : Option (Bool × St) :=
  (if x14.1 < (x14.2.2.2.1 1 2) then (f_X6_areBothWrong a1 a2 x14.1 x14.2.2.2).bind (fun v15 => (if v15 = true then (f_X6_meet a1 a2 x14.1 x14.2.1 x14.2.2.2).bind (fun p16 => bl (x14.2.2.1 * p16.1) (fun v17 => r13 (x14.1 + 1, x14.2.1 + 1, v17, p16.2))) else r13 (x14.1 + 1, x14.2.1, x14.2.2.1, x14.2.2.2))) else K4 (x14.2.1, x14.2.2.1, x14.2.2.2))
noncomputable def f_X6_reckonChance (a1 : Int32) (a2 : Int32) (s : St) : Option (Bool × St) :=
  (f_X6_bothWrongs a1 a2 s).bind (fun v1 => (if 7 < v1 then some (false, s) else (f_J7_fill_d0a16 23 8 0 s).bind (fun s2 => gd (inb 0 8) (bd (wL s2 23 (0 : Int32).toNatClampNeg 1) (fun s3 => jn (fun (y5 : Int32 × Int64 × St) => (f_X6_sameWrongs a1 a2 y5.2.2).bind (fun v6 => jn (fun (y8 : Int64) => (f_X1_become y8 y5.2.1 y5.2.2).bind (fun s9 => some (true, s9))) (fun K7 => lp (L_X6_reckonChance_92 y5 K7) NN (v6, 0)))) (fun K4 => lp (L_X6_reckonChance_36 a1 a2 K4) NN (0, 0, 1, s3)))))))
noncomputable def f_X6_areOdd (a1 : Int32) (a2 : Int32) (s : St) : Option (Bool × St) :=
  (f_X6_sameWrongs a1 a2 s).bind (fun v1 => (if 0 < v1 then (f_X6_reckonChance a1 a2 s).bind (fun p2 => (if p2.1 = true then (if (((p2.2.1 6 0).toInt64) * (p2.2.2 10 1)) < ((p2.2.2 10 0) * 1000) then some (false, p2.2) else some (true, p2.2)) else some (false, p2.2))) else some (false, s)))
noncomputable def L_X2_link_25 (r2 : (Int32 × St) → Option St) (x3 : Int32 × St) (r5 : (Int32 × St) → Option St) (x6 : Int32 × St) : Option St :=
  (if x6.1 < (x6.2.1 2 0) then (f_X7_areNear x3.1 x6.1 x6.2).bind (fun v7 => (if v7 = true then (f_X6_areOdd x3.1 x6.1 x6.2).bind (fun p8 => (if p8.1 = true then gd (inb x3.1 10) (gd (inb x3.1 10) (bd (wI p8.2 24 x3.1.toNatClampNeg ((p8.2.1 24 x3.1.toNatClampNeg) ||| (1 <<< (x6.1 &&& 31)))) (fun s9 => gd (inb x6.1 10) (gd (inb x6.1 10) (bd (wI s9 24 x6.1.toNatClampNeg ((s9.1 24 x6.1.toNatClampNeg) ||| (1 <<< (x3.1 &&& 31)))) (fun s10 => r5 (x6.1 + 1, s10))))))) else r5 (x6.1 + 1, p8.2))) else r5 (x6.1 + 1, x6.2))) else r2 (x3.1 + 1, x6.2))
noncomputable def L_X2_link_10  (r2 : (Int32 × St) → Option St) (x3 : Int32 × St) : Option St :=
  (if x3.1 < (x3.2.1 2 0) then bv (x3.1 + 1) (fun v4 => lp (L_X2_link_25 r2 x3) NN (v4, x3.2)) else some x3.2)
noncomputable def f_X2_link  (s : St) : Option St :=
  (f_J7_fill_53178 24 10 0 s).bind (fun s1 => lp (L_X2_link_10) NN (0, s1))
noncomputable def f_X7_allBits  (s : St) : Option Int32 :=
  some ((1 <<< ((s.1 2 0) &&& 31)) - 1)
noncomputable def f_J6_bitCount_0f7a4 (a0 : Int32) (s : St) : Option Int32 :=
  bv (a0 - (((a0.toUInt32 >>> (Int32.toUInt32 1 &&& Int32.toUInt32 31)).toInt32) &&& 1431655765)) (fun v1 => bv ((v1 &&& 858993459) + (((v1.toUInt32 >>> (Int32.toUInt32 2 &&& Int32.toUInt32 31)).toInt32) &&& 858993459)) (fun v2 => bv ((v2 + ((v2.toUInt32 >>> (Int32.toUInt32 4 &&& Int32.toUInt32 31)).toInt32)) &&& 252645135) (fun v3 => bv (v3 + ((v3.toUInt32 >>> (Int32.toUInt32 8 &&& Int32.toUInt32 31)).toInt32)) (fun v4 => bv (v4 + ((v4.toUInt32 >>> (Int32.toUInt32 16 &&& Int32.toUInt32 31)).toInt32)) (fun v5 => some (v5 &&& 63))))))
noncomputable def L_X2_covers_2 (a1 : Int32) (s : St) (r1 : Int32 → Option Bool) (x2 : Int32) : Option Bool :=
  (if x2 < (s.1 2 0) then (if ((a1 >>> (x2 &&& 31)) &&& 1) = 0 then gd (inb x2 10) ((if ((s.1 24 x2.toNatClampNeg) &&& (a1 ^^^ (-1))) = 0 then r1 (x2 + 1) else some false)) else r1 (x2 + 1)) else some true)
noncomputable def f_X2_covers (a1 : Int32) (s : St) : Option Bool :=
  lp (L_X2_covers_2 a1 s) NN 0
noncomputable def L_X2_fewest_10 (s : St) (r2 : (Int32 × Int32) → Option Int32) (x3 : Int32 × Int32) : Option Int32 :=
  (f_X7_allBits s).bind (fun v4 => (if v4 < x3.1 then some x3.2 else (f_J6_bitCount_0f7a4 x3.1 s).bind (fun v5 => (f_J6_bitCount_0f7a4 x3.2 s).bind (fun v6 => (if v5 < v6 then (f_X2_covers x3.1 s).bind (fun v7 => (if v7 = true then r2 (x3.1 + 1, x3.1) else r2 (x3.1 + 1, x3.2))) else r2 (x3.1 + 1, x3.2))))))
noncomputable def f_X2_fewest  (s : St) : Option Int32 :=
  (f_X7_allBits s).bind (fun v1 => lp (L_X2_fewest_10 s) NN (0, v1))
noncomputable def f_X5_isRight (a1 : Int32) (a2 : Int32) (s : St) : Option Bool :=
  gd (inb a2 12) ((if (s.1 11 a2.toNatClampNeg) = 0 then some false else gd (inb a1 10) (gd (inb a2 12) (gd (inb a2 12) ((if (s.1 (WC.2.2 32 a1.toNatClampNeg) a2.toNatClampNeg) = (s.1 11 a2.toNatClampNeg) then some true else some false))))))
noncomputable def L_X5_restOf_5 (a1 : Int32) (a2 : Int32) (s : St) (r1 : (Int32 × Int32) → Option Int32) (x2 : Int32 × Int32) : Option Int32 :=
  (if x2.1 < (s.1 1 2) then (if x2.1 = a2 then r1 (x2.1 + 1, x2.2) else (f_X5_isRight a1 x2.1 s).bind (fun v3 => (if v3 = true then r1 (x2.1 + 1, x2.2 + 1) else r1 (x2.1 + 1, x2.2)))) else some x2.2)
noncomputable def f_X5_restOf (a1 : Int32) (a2 : Int32) (s : St) : Option Int32 :=
  lp (L_X5_restOf_5 a1 a2 s) NN (0, 0)
noncomputable def f_X5_markOf (a1 : Int32) (s : St) : Option Int32 :=
  (f_X5_restOf a1 (-1) s).bind (fun v1 => some v1)
noncomputable def f_X8_wasRubbed (a1 : Int32) (s : St) : Option Bool :=
  gd (inb a1 150) ((if (s.1 16 a1.toNatClampNeg) < (s.1 1 2) then gd (inb a1 150) ((if (s.1 18 a1.toNatClampNeg) = 0 then some false else gd (inb a1 150) (gd (inb a1 150) ((if (s.1 18 a1.toNatClampNeg) = (s.1 17 a1.toNatClampNeg) then some false else some true))))) else some false))
noncomputable def f_X8_isKind (a1 : Int32) (a2 : Int32) (s : St) : Option Bool :=
  gd (inb a1 150) (gd (inb (s.1 16 a1.toNatClampNeg) 12) (bv (s.1 11 (s.1 16 a1.toNatClampNeg).toNatClampNeg) (fun v1 => (if a2 = 0 then some true else (if v1 = 0 then some false else (if a2 = 1 then gd (inb a1 150) ((if (s.1 17 a1.toNatClampNeg) = v1 then some true else some false)) else gd (inb a1 150) ((if (s.1 18 a1.toNatClampNeg) = v1 then gd (inb a1 150) ((if (s.1 17 a1.toNatClampNeg) = 0 then some false else some true)) else some false))))))))
noncomputable def L_X8_countOf_5 (a1 : Int32) (a2 : Int32) (s : St) (r1 : (Int32 × Int32) → Option Int32) (x2 : Int32 × Int32) : Option Int32 :=
  (if x2.1 < (s.1 3 1) then gd (inb x2.1 150) ((if ((a1 >>> ((s.1 15 x2.1.toNatClampNeg) &&& 31)) &&& 1) = 0 then r1 (x2.1 + 1, x2.2) else (f_X8_wasRubbed x2.1 s).bind (fun v3 => (if v3 = true then (f_X8_isKind x2.1 a2 s).bind (fun v4 => (if v4 = true then r1 (x2.1 + 1, x2.2 + 1) else r1 (x2.1 + 1, x2.2))) else r1 (x2.1 + 1, x2.2))))) else some x2.2)
noncomputable def f_X8_countOf (a1 : Int32) (a2 : Int32) (s : St) : Option Int32 :=
  lp (L_X8_countOf_5 a1 a2 s) NN (0, 0)
noncomputable def L_X2_weigh_2  (r1 : (Int32 × St) → Option St) (x2 : Int32 × St) : Option St :=
  (if x2.1 < (x2.2.1 2 0) then (f_X5_markOf x2.1 x2.2).bind (fun v3 => (f_X8_countOf (1 <<< (x2.1 &&& 31)) 0 x2.2).bind (fun v4 => gd (inb x2.1 10) (bd (wI x2.2 25 x2.1.toNatClampNeg ((v3 * 151) - v4)) (fun s5 => r1 (x2.1 + 1, s5))))) else some x2.2)
noncomputable def f_X2_weigh  (s : St) : Option St :=
  lp (L_X2_weigh_2) NN (0, s)
noncomputable def f_X2_giver (a1 : Int32) (a2 : Int32) (s : St) : Option Int32 :=
  gd (inb a1 10) (gd (inb a2 10) ((if (s.1 25 a1.toNatClampNeg) = (s.1 25 a2.toNatClampNeg) then some (-1) else gd (inb a1 10) (gd (inb a2 10) ((if (s.1 25 a2.toNatClampNeg) < (s.1 25 a1.toNatClampNeg) then some a1 else some a2))))))
noncomputable def f_J9_max_7cf53 (a0 : Int32) (a1 : Int32) (s : St) : Option Int32 :=
  (if a0 < a1 then some a1 else some a0)
noncomputable def L_X2_lengthen_9 (a1 : Int32) (r2 : (Int32 × Int32 × St) → Option (Int32 × St)) (x3 : Int32 × Int32 × St) : Option (Int32 × St) :=
  (if x3.1 < (x3.2.2.1 2 0) then gd (inb a1 10) ((if (((x3.2.2.1 24 a1.toNatClampNeg) >>> (x3.1 &&& 31)) &&& 1) = 0 then r2 (x3.1 + 1, x3.2.1, x3.2.2) else (f_X2_giver a1 x3.1 x3.2.2).bind (fun v4 => (if v4 = a1 then gd (inb x3.1 10) (gd (inb a1 10) ((f_J9_max_7cf53 (x3.2.2.1 26 x3.1.toNatClampNeg) ((x3.2.2.1 26 a1.toNatClampNeg) + 1) x3.2.2).bind (fun v5 => gd (inb x3.1 10) (bd (wI x3.2.2 26 x3.1.toNatClampNeg v5) (fun s6 => gd (inb x3.1 10) ((f_J9_max_7cf53 x3.2.1 (s6.1 26 x3.1.toNatClampNeg) s6).bind (fun v7 => r2 (x3.1 + 1, v7, s6)))))))) else r2 (x3.1 + 1, x3.2.1, x3.2.2))))) else some (x3.2.1, x3.2.2))
noncomputable def f_X2_lengthen (a1 : Int32) (s : St) : Option (Int32 × St) :=
  gd (inb a1 10) (bv (s.1 26 a1.toNatClampNeg) (fun v1 => lp (L_X2_lengthen_9 a1) NN (0, v1, s)))
noncomputable def L_X2_longestChain_35 (r3 : (Int32 × Int32 × St) → Option (Int32 × St)) (x4 : Int32 × Int32 × St) (r5 : (Int32 × Int32 × St) → Option (Int32 × St)) (x6 : Int32 × Int32 × St) : Option (Int32 × St) :=
  (if x6.1 < (x6.2.2.1 2 0) then (f_X2_lengthen x6.1 x6.2.2).bind (fun p7 => (f_J9_max_7cf53 x6.2.1 p7.1 p7.2).bind (fun v8 => r5 (x6.1 + 1, v8, p7.2))) else r3 (x4.1 + 1, x6.2.1, x6.2.2))
noncomputable def L_X2_longestChain_22  (r3 : (Int32 × Int32 × St) → Option (Int32 × St)) (x4 : Int32 × Int32 × St) : Option (Int32 × St) :=
  (if x4.1 < (x4.2.2.1 2 0) then lp (L_X2_longestChain_35 r3 x4) NN (0, x4.2.1, x4.2.2) else some (x4.2.1, x4.2.2))
noncomputable def f_X2_longestChain  (s : St) : Option (Int32 × St) :=
  (f_J7_fill_53178 26 10 1 s).bind (fun s1 => (f_J9_min_7cf53 (s1.1 2 0) 1 s1).bind (fun v2 => lp (L_X2_longestChain_22) NN (0, v2, s1)))
noncomputable def L_X3_choosersOf_5 (a1 : Int32) (a2 : Int32) (s : St) (r1 : (Int32 × Int32) → Option Int32) (x2 : Int32 × Int32) : Option Int32 :=
  (if x2.1 < (s.1 2 0) then gd (inb x2.1 10) (gd (inb a1 12) ((if (s.1 (WC.2.2 32 x2.1.toNatClampNeg) a1.toNatClampNeg) = a2 then r1 (x2.1 + 1, x2.2 + 1) else r1 (x2.1 + 1, x2.2)))) else some x2.2)
noncomputable def f_X3_choosersOf (a1 : Int32) (a2 : Int32) (s : St) : Option Int32 :=
  lp (L_X3_choosersOf_5 a1 a2 s) NN (0, 0)
noncomputable def L_X3_restsOf_5 (a1 : Int32) (a2 : Int32) (s : St) (r1 : (Int32 × Int32) → Option Int32) (x2 : Int32 × Int32) : Option Int32 :=
  (if x2.1 < (s.1 2 0) then gd (inb x2.1 10) (gd (inb a1 12) ((if (s.1 (WC.2.2 32 x2.1.toNatClampNeg) a1.toNatClampNeg) = a2 then (f_X5_restOf x2.1 a1 s).bind (fun v3 => bv (x2.2 + v3) (fun v4 => r1 (x2.1 + 1, v4))) else r1 (x2.1 + 1, x2.2)))) else some x2.2)
noncomputable def f_X3_restsOf (a1 : Int32) (a2 : Int32) (s : St) : Option Int32 :=
  lp (L_X3_restsOf_5 a1 a2 s) NN (0, 0)
noncomputable def L_X3_bestChoice_10 (a1 : Int32) (s : St) (r1 : (Int32 × Int32 × Int32 × Int32) → Option Int32) (x2 : Int32 × Int32 × Int32 × Int32) : Option Int32 :=
  (if 5 < x2.1 then some x2.2.2.2 else (f_X3_choosersOf a1 x2.1 s).bind (fun v3 => (f_X3_restsOf a1 x2.1 s).bind (fun v4 => bv ((v4 * x2.2.2.1) - (x2.2.1 * v3)) (fun v5 => (if 0 < v3 then (if x2.2.2.2 = (-1) then r1 (x2.1 + 1, v4, v3, x2.1) else (if 0 < v5 then r1 (x2.1 + 1, v4, v3, x2.1) else (if v5 = 0 then (if x2.2.2.1 < v3 then r1 (x2.1 + 1, v4, v3, x2.1) else r1 (x2.1 + 1, x2.2.1, x2.2.2.1, x2.2.2.2)) else r1 (x2.1 + 1, x2.2.1, x2.2.2.1, x2.2.2.2)))) else r1 (x2.1 + 1, x2.2.1, x2.2.2.1, x2.2.2.2))))))
noncomputable def f_X3_bestChoice (a1 : Int32) (s : St) : Option Int32 :=
  lp (L_X3_bestChoice_10 a1 s) NN (1, 0, 0, (-1))
noncomputable def L_X3_orderByRest_30 (x2 : Int32 × St) (K5 : (Int32 × St) → Option St) (r8 : (Int32 × St) → Option St) (x9 : Int32 × St) : Option St :=
  (if 0 < x9.1 then gd (inb (x9.1 - 1) 10) (gd (inb (x9.2.1 30 (x9.1 - 1).toNatClampNeg) 10) (gd (inb x2.1 10) ((if (x9.2.1 29 (x9.2.1 30 (x9.1 - 1).toNatClampNeg).toNatClampNeg) < (x9.2.1 29 x2.1.toNatClampNeg) then gd (inb (x9.1 - 1) 10) (gd (inb x9.1 10) (bd (wI x9.2 30 x9.1.toNatClampNeg (x9.2.1 30 (x9.1 - 1).toNatClampNeg)) (fun s10 => r8 (x9.1 + (-1), s10)))) else K5 (x9.1, x9.2))))) else K5 (x9.1, x9.2))
noncomputable def L_X3_orderByRest_2 (a1 : Int32) (r1 : (Int32 × St) → Option St) (x2 : Int32 × St) : Option St :=
  (if x2.1 < (x2.2.1 2 0) then (f_X5_restOf x2.1 a1 x2.2).bind (fun v3 => gd (inb x2.1 10) (bd (wI x2.2 29 x2.1.toNatClampNeg v3) (fun s4 => jn (fun (y6 : Int32 × St) => gd (inb y6.1 10) (bd (wI y6.2 30 y6.1.toNatClampNeg x2.1) (fun s7 => r1 (x2.1 + 1, s7)))) (fun K5 => lp (L_X3_orderByRest_30 x2 K5) NN (x2.1, s4))))) else some x2.2)
noncomputable def f_X3_orderByRest (a1 : Int32) (s : St) : Option St :=
  lp (L_X3_orderByRest_2 a1) NN (0, s)
noncomputable def L_X3_betterLessWorse_20 (a1 : Int32) (s1 : St) (v2 : Int32) (r3 : (Int32 × Int32) → Option (Int32 × St)) (x4 : Int32 × Int32) : Option (Int32 × St) :=
  (if x4.1 < v2 then gd (inb x4.1 10) ((f_X5_isRight (s1.1 30 x4.1.toNatClampNeg) a1 s1).bind (fun v5 => jn (fun (y7 : Int32) => gd (inb (((s1.1 2 0) - 1) - x4.1) 10) ((f_X5_isRight (s1.1 30 (((s1.1 2 0) - 1) - x4.1).toNatClampNeg) a1 s1).bind (fun v8 => (if v8 = true then r3 (x4.1 + 1, y7 + (-1)) else r3 (x4.1 + 1, y7))))) (fun K6 => (if v5 = true then K6 (x4.2 + 1) else K6 x4.2)))) else some (x4.2, s1))
noncomputable def f_X3_betterLessWorse (a1 : Int32) (s : St) : Option (Int32 × St) :=
  (f_X3_orderByRest a1 s).bind (fun s1 => gd (2 != (0 : Int32)) (bv ((s1.1 2 0) / 2) (fun v2 => lp (L_X3_betterLessWorse_20 a1 s1 v2) NN (0, 0))))
noncomputable def f_X11_within (a0 : Int32) (a1 : Int32) (a2 : Int32) (s : St) : Option Bool :=
  (if a0 < a1 then some false else (if a2 < a0 then some false else some true))
noncomputable def L_X4_firstFault_14 (s : St) (v1 : Int32) (K2 : Unit → Option Int32) (r4 : Int32 → Option Int32) (x5 : Int32) : Option Int32 :=
  (if x5 < v1 then gd (inb x5 12) ((if (s.1 12 x5.toNatClampNeg) = 63 then r4 (x5 + 1) else gd (inb x5 12) ((f_X11_within (s.1 12 x5.toNatClampNeg) 49 53 s).bind (fun v6 => (if v6 = true then r4 (x5 + 1) else some x5))))) else K2 ())
noncomputable def f_X4_firstFault  (s : St) : Option Int32 :=
  (f_J9_min_7cf53 (s.1 1 1) (s.1 1 2) s).bind (fun v1 => jn (fun (y3 : Unit) => (if (s.1 1 1) = (s.1 1 2) then some (-1) else some v1)) (fun K2 => lp (L_X4_firstFault_14 s v1 K2) NN 0))
noncomputable def L_X4_settle_15  (r4 : (Int32 × St) → Option St) (x5 : Int32 × St) : Option St :=
  (if x5.1 < 12 then jn (fun (y7 : Bool) => jn (fun (y9 : Int32) => gd (inb x5.1 12) (bd (wI x5.2 11 x5.1.toNatClampNeg y9) (fun s10 => (if y7 = true then r4 (x5.1 + 1, s10) else bd (wI s10 1 4 ((s10.1 1 4) + 1)) (fun s11 => r4 (x5.1 + 1, s11)))))) (fun K8 => (if y7 = true then K8 0 else gd (inb x5.1 12) (K8 ((x5.2.1 12 x5.1.toNatClampNeg) - 48))))) (fun K6 => (if (x5.2.1 1 3) = (-1) then (if x5.1 < (x5.2.1 1 2) then gd (inb x5.1 12) ((if (x5.2.1 12 x5.1.toNatClampNeg) = 63 then K6 true else K6 false)) else K6 true) else K6 true)) else some x5.2)
noncomputable def f_X4_settle  (s : St) : Option St :=
  (f_X4_firstFault s).bind (fun v1 => bd (wI s 1 3 v1) (fun s2 => bd (wI s2 1 4 0) (fun s3 => lp (L_X4_settle_15) NN (0, s3))))
noncomputable def f_X4_ask (a1 : Int32) (s : St) : Option St :=
  bd (wI s 1 2 a1) (fun s1 => (f_X4_settle s1).bind (fun s2 => some s2))
noncomputable def f_X4_append (a1 : Int32) (s : St) : Option St :=
  (if (s.1 1 1) < 12 then gd (inb (s.1 1 1) 12) (bd (wI s 12 (s.1 1 1).toNatClampNeg a1) (fun s1 => bd (wI s1 1 1 ((s1.1 1 1) + 1)) (fun s2 => (f_X4_settle s2).bind (fun s3 => some s3)))) else some s)
noncomputable def f_X4_empty  (s : St) : Option St :=
  bd (wI s 1 1 0) (fun s1 => (f_X4_settle s1).bind (fun s2 => some s2))
noncomputable def L_X5_wrongsOf_4 (a1 : Int32) (s : St) (r1 : (Int32 × Int32) → Option Int32) (x2 : Int32 × Int32) : Option Int32 :=
  (if x2.1 < (s.1 1 2) then gd (inb x2.1 12) ((if (s.1 11 x2.1.toNatClampNeg) = 0 then r1 (x2.1 + 1, x2.2) else gd (inb a1 10) (gd (inb x2.1 12) ((if (s.1 (WC.2.2 32 a1.toNatClampNeg) x2.1.toNatClampNeg) = 0 then r1 (x2.1 + 1, x2.2) else (f_X5_isRight a1 x2.1 s).bind (fun v3 => (if v3 = true then r1 (x2.1 + 1, x2.2) else r1 (x2.1 + 1, x2.2 + 1)))))))) else some x2.2)
noncomputable def f_X5_wrongsOf (a1 : Int32) (s : St) : Option Int32 :=
  lp (L_X5_wrongsOf_4 a1 s) NN (0, 0)
noncomputable def L_X5_together_4 (s : St) (r1 : (Int32 × Int32) → Option Int32) (x2 : Int32 × Int32) : Option Int32 :=
  (if x2.1 < (s.1 2 0) then (f_X5_markOf x2.1 s).bind (fun v3 => bv (x2.2 + v3) (fun v4 => r1 (x2.1 + 1, v4))) else some x2.2)
noncomputable def f_X5_together  (s : St) : Option Int32 :=
  lp (L_X5_together_4 s) NN (0, 0)
noncomputable def L_X5_rightsTo_5 (a1 : Int32) (a2 : Int32) (s : St) (r1 : (Int32 × Int32) → Option Int32) (x2 : Int32 × Int32) : Option Int32 :=
  (if x2.1 < (s.1 2 0) then (if ((a2 >>> (x2.1 &&& 31)) &&& 1) = 0 then r1 (x2.1 + 1, x2.2) else (f_X5_isRight x2.1 a1 s).bind (fun v3 => (if v3 = true then r1 (x2.1 + 1, x2.2 + 1) else r1 (x2.1 + 1, x2.2)))) else some x2.2)
noncomputable def f_X5_rightsTo (a1 : Int32) (a2 : Int32) (s : St) : Option Int32 :=
  lp (L_X5_rightsTo_5 a1 a2 s) NN (0, 0)
noncomputable def L_X5_fillRests_2 (a1 : Nat) (n1 : Nat) (a2 : Int32) (r1 : (Int32 × St) → Option St) (x2 : Int32 × St) : Option St :=
  (if x2.1 < (x2.2.1 2 0) then (f_X5_restOf x2.1 a2 x2.2).bind (fun v3 => gd (inb x2.1 n1) (bd (wI x2.2 a1 x2.1.toNatClampNeg v3) (fun s4 => r1 (x2.1 + 1, s4)))) else some x2.2)
noncomputable def f_X5_fillRests (a1 : Nat) (n1 : Nat) (a2 : Int32) (s : St) : Option St :=
  lp (L_X5_fillRests_2 a1 n1 a2) NN (0, s)
noncomputable def L_X5_rankIn_5 (a1 : Nat) (n1 : Nat) (a2 : Int32) (s : St) (r1 : (Int32 × Int32) → Option Int32) (x2 : Int32 × Int32) : Option Int32 :=
  (if x2.1 < (s.1 2 0) then gd (inb x2.1 n1) (gd (inb a2 n1) ((if (s.1 a1 a2.toNatClampNeg) < (s.1 a1 x2.1.toNatClampNeg) then r1 (x2.1 + 1, x2.2 + 1) else r1 (x2.1 + 1, x2.2)))) else some x2.2)
noncomputable def f_X5_rankIn (a1 : Nat) (n1 : Nat) (a2 : Int32) (s : St) : Option Int32 :=
  lp (L_X5_rankIn_5 a1 n1 a2 s) NN (0, 1)
noncomputable def f_X5_rankOf (a1 : Int32) (s : St) : Option (Int32 × St) :=
  (f_X5_fillRests 20 10 (-1) s).bind (fun s1 => (f_X5_rankIn 20 10 a1 s1).bind (fun v2 => some (v2, s1)))
noncomputable def f_X5_passes (a1 : Int32) (a2 : Int32) (s : St) : Option Bool :=
  (if (a1 * 100) < ((s.1 4 0) * a2) then some false else some true)
noncomputable def L_X5_otherRanks_22 (s2 : St) (r3 : (Int32 × Int32) → Option (Int32 × St)) (x4 : Int32 × Int32) : Option (Int32 × St) :=
  (if x4.1 < (s2.1 2 0) then (f_X5_rankIn 20 10 x4.1 s2).bind (fun v5 => (f_X5_rankIn 21 10 x4.1 s2).bind (fun v6 => (if v5 = v6 then r3 (x4.1 + 1, x4.2) else r3 (x4.1 + 1, x4.2 + 1)))) else some (x4.2, s2))
noncomputable def f_X5_otherRanks (a1 : Int32) (s : St) : Option (Int32 × St) :=
  (f_X5_fillRests 20 10 (-1) s).bind (fun s1 => (f_X5_fillRests 21 10 a1 s1).bind (fun s2 => lp (L_X5_otherRanks_22 s2) NN (0, 0)))
noncomputable def L_X5_otherPasses_37 (a1 : Int32) (s : St) (y2 : Int32) (r3 : (Int32 × Int32) → Option Int32) (x4 : Int32 × Int32) : Option Int32 :=
  (if x4.1 < (s.1 2 0) then (f_X5_markOf x4.1 s).bind (fun v5 => (f_X5_passes v5 (s.1 1 4) s).bind (fun v6 => (f_X5_restOf x4.1 a1 s).bind (fun v7 => (f_X5_passes v7 y2 s).bind (fun v8 => (if (bI v6) = (bI v8) then r3 (x4.1 + 1, x4.2) else r3 (x4.1 + 1, x4.2 + 1)))))) else some x4.2)
noncomputable def f_X5_otherPasses (a1 : Int32) (s : St) : Option Int32 :=
  gd (inb a1 12) (jn (fun (y2 : Int32) => lp (L_X5_otherPasses_37 a1 s y2) NN (0, 0)) (fun K1 => (if (s.1 11 a1.toNatClampNeg) = 0 then K1 (s.1 1 4) else K1 ((s.1 1 4) - 1))))
noncomputable def L_X6_oddPairs_19 (r1 : (Int32 × Int32 × St) → Option (Int32 × St)) (x2 : Int32 × Int32 × St) (r4 : (Int32 × Int32 × St) → Option (Int32 × St)) (x5 : Int32 × Int32 × St) : Option (Int32 × St) :=
  (if x5.1 < (x5.2.2.1 2 0) then (f_X6_areOdd x2.1 x5.1 x5.2.2).bind (fun p6 => (if p6.1 = true then r4 (x5.1 + 1, x5.2.1 + 1, p6.2) else r4 (x5.1 + 1, x5.2.1, p6.2))) else r1 (x2.1 + 1, x5.2.1, x5.2.2))
noncomputable def L_X6_oddPairs_4  (r1 : (Int32 × Int32 × St) → Option (Int32 × St)) (x2 : Int32 × Int32 × St) : Option (Int32 × St) :=
  (if x2.1 < (x2.2.2.1 2 0) then bv (x2.1 + 1) (fun v3 => lp (L_X6_oddPairs_19 r1 x2) NN (v3, x2.2.1, x2.2.2)) else some (x2.2.1, x2.2.2))
noncomputable def f_X6_oddPairs  (s : St) : Option (Int32 × St) :=
  lp (L_X6_oddPairs_4) NN (0, 0, s)
noncomputable def L_X7_isTaken_2 (a1 : Int32) (a2 : Int32) (s : St) (r1 : Int32 → Option Bool) (x2 : Int32) : Option Bool :=
  (if x2 < (s.1 2 0) then gd (inb x2 10) ((if (s.1 13 x2.toNatClampNeg) = a1 then gd (inb x2 10) ((if (s.1 14 x2.toNatClampNeg) = a2 then some true else r1 (x2 + 1))) else r1 (x2 + 1))) else some false)
noncomputable def f_X7_isTaken (a1 : Int32) (a2 : Int32) (s : St) : Option Bool :=
  lp (L_X7_isTaken_2 a1 a2 s) NN 0
noncomputable def f_X7_seat (a1 : Int32) (a2 : Int32) (s : St) : Option St :=
  (if (s.1 2 0) < 10 then gd (inb (s.1 2 0) 10) (bd (wI s 13 (s.1 2 0).toNatClampNeg a1) (fun s1 => gd (inb (s1.1 2 0) 10) (bd (wI s1 14 (s1.1 2 0).toNatClampNeg a2) (fun s2 => bd (wI s2 2 0 ((s2.1 2 0) + 1)) (fun s3 => some s3))))) else some s)
noncomputable def L_X8_waysToDraw_24 (a0 : Int32) (v1 : Int32) (r2 : (Int32 × Int64) → Option Int64) (x3 : Int32 × Int64) : Option Int64 :=
  (if v1 < x3.1 then some x3.2 else gd (x3.1.toInt64 != (0 : Int64)) (bl ((x3.2 * (((a0 - v1) + x3.1).toInt64)) / x3.1.toInt64) (fun v4 => r2 (x3.1 + 1, v4))))
noncomputable def f_X8_waysToDraw (a0 : Int32) (a1 : Int32) (s : St) : Option Int64 :=
  (if a1 < 0 then some 0 else (if a0 < a1 then some 0 else (f_J9_min_7cf53 a1 (a0 - a1) s).bind (fun v1 => lp (L_X8_waysToDraw_24 a0 v1) NN (1, 1))))
noncomputable def L_X8_reckonGains_47 (s : St) (v1 : Int32) (v2 : Int32) (v3 : Int32) (v4 : Int32) (K6 : Int64 → Option St) (r10 : (Int32 × Int64) → Option St) (x11 : Int32 × Int64) : Option St :=
  (if v4 < x11.1 then K6 x11.2 else (f_X8_waysToDraw v2 x11.1 s).bind (fun v12 => (f_X8_waysToDraw (v1 - v2) (v3 - x11.1) s).bind (fun v13 => bl (x11.2 + (v12 * v13)) (fun v14 => r10 (x11.1 + 1, v14)))))
noncomputable def f_X8_reckonGains (a1 : Int32) (s : St) : Option St :=
  (f_X8_countOf 1023 0 s).bind (fun v1 => (f_X8_countOf 1023 1 s).bind (fun v2 => (f_X8_countOf a1 0 s).bind (fun v3 => (f_J9_min_7cf53 v2 v3 s).bind (fun v4 => (f_X8_countOf a1 1 s).bind (fun v5 => jn (fun (y7 : Int64) => (f_X8_waysToDraw v1 v3 s).bind (fun v8 => (f_X1_become y7 v8 s).bind (fun s9 => some s9))) (fun K6 => lp (L_X8_reckonGains_47 s v1 v2 v3 v4 K6) NN (v5, 0)))))))
noncomputable def f_X9_renew (a0 : Nat) (a1 : Int32) (a2 : Int32) (s : St) : Option St :=
  bd (wI s a0 0 0) (fun s1 => bd (wI s1 a0 1 a1) (fun s2 => (f_J9_min_7cf53 a2 48 s2).bind (fun v3 => bd (wI s2 a0 2 v3) (fun s4 => (f_J7_fill_53178 (WC.2.2 a0 3) 48 0 s4).bind (fun s5 => some s5)))))
noncomputable def f_X9_findingAt (a0 : Nat) (a1 : Int32) (a2 : Int32) (s : St) : Option Int32 :=
  (if (s.1 a0 0) = 0 then (if (s.1 a0 1) = a1 then (f_X11_within a2 0 ((s.1 a0 2) - 1) s).bind (fun v1 => (if v1 = true then some 0 else some 2)) else some 3) else some 1)
noncomputable def f_X9_holds (a0 : Nat) (a1 : Int32) (a2 : Int32) (s : St) : Option Bool :=
  (f_X11_within a1 0 (s.1 a0 2) s).bind (fun v1 => (if v1 = true then (f_X11_within a2 0 ((s.1 a0 2) - a1) s).bind (fun v2 => (if v2 = true then some true else some false)) else some false))
noncomputable def f_X9_store (a0 : Nat) (a1 : Int32) (a2 : Int32) (s : St) : Option St :=
  (if (s.1 a0 1) = 0 then gd (inb a1 48) (bd (wI s (WC.2.2 a0 3) a1.toNatClampNeg a2.toInt8.toInt32) (fun s4 => some s4)) else jn (fun (y2 : Int32) => gd (inb a1 48) (bd (wI s (WC.2.2 a0 3) a1.toNatClampNeg y2) (fun s3 => some s3))) (fun K1 => (if (s.1 a0 1) = 1 then K1 a2.toInt16.toInt32 else K1 a2)))
noncomputable def f_X10_latestTime  (s : St) : Option Int32 :=
  (if (s.1 3 0) = 0 then some 0 else gd (inb ((s.1 3 0) - 1) 150) (some (s.1 19 ((s.1 3 0) - 1).toNatClampNeg)))
noncomputable def L_X10_countOn_0  (r1 : St → Option St) (x2 : St) : Option St :=
  (if (x2.1 3 1) < (x2.1 3 0) then gd (inb (x2.1 3 1) 150) ((if (x2.1 3 2) < (x2.1 19 (x2.1 3 1).toNatClampNeg) then some x2 else gd (inb (x2.1 3 1) 150) (gd (inb (x2.1 15 (x2.1 3 1).toNatClampNeg) 10) (gd (inb (x2.1 3 1) 150) (gd (inb (x2.1 3 1) 150) (gd (inb (x2.1 16 (x2.1 3 1).toNatClampNeg) 12) (bd (wI x2 (WC.2.2 32 (x2.1 15 (x2.1 3 1).toNatClampNeg).toNatClampNeg) (x2.1 16 (x2.1 3 1).toNatClampNeg).toNatClampNeg (x2.1 17 (x2.1 3 1).toNatClampNeg)) (fun s3 => bd (wI s3 3 1 ((s3.1 3 1) + 1)) (fun s4 => r1 s4))))))))) else some x2)
noncomputable def f_X10_countOn  (s : St) : Option St :=
  lp (L_X10_countOn_0) NN s
noncomputable def f_X10_tell (a1 : Int32) (a2 : Int32) (a3 : Int32) (a4 : Int32) (s : St) : Option St :=
  (if (s.1 3 0) < 150 then gd (inb (s.1 3 0) 150) (bd (wI s 15 (s.1 3 0).toNatClampNeg a1) (fun s1 => gd (inb (s1.1 3 0) 150) (bd (wI s1 16 (s1.1 3 0).toNatClampNeg a2) (fun s2 => gd (inb (s2.1 3 0) 150) (bd (wI s2 17 (s2.1 3 0).toNatClampNeg a3) (fun s3 => gd (inb a1 10) (gd (inb a2 12) (gd (inb (s3.1 3 0) 150) (bd (wI s3 18 (s3.1 3 0).toNatClampNeg (s3.1 (WC.2.2 33 a1.toNatClampNeg) a2.toNatClampNeg)) (fun s4 => gd (inb (s4.1 3 0) 150) (bd (wI s4 19 (s4.1 3 0).toNatClampNeg a4) (fun s5 => gd (inb a1 10) (gd (inb a2 12) (bd (wI s5 (WC.2.2 33 a1.toNatClampNeg) a2.toNatClampNeg a3) (fun s6 => bd (wI s6 3 0 ((s6.1 3 0) + 1)) (fun s7 => (f_X10_countOn s7).bind (fun s8 => some s8))))))))))))))))) else some s)
noncomputable def L_X10_lookAsOf_12 (K3 : St → Option St) (r6 : (Int32 × St) → Option St) (x7 : Int32 × St) : Option St :=
  (if x7.1 < 10 then gd (inb x7.1 10) ((f_J7_fill_53178 (WC.2.2 32 x7.1.toNatClampNeg) 12 0 x7.2).bind (fun s8 => r6 (x7.1 + 1, s8))) else K3 x7.2)
noncomputable def f_X10_lookAsOf (a1 : Int32) (s : St) : Option St :=
  bd (wI s 3 2 a1) (fun s1 => bd (wI s1 3 1 0) (fun s2 => jn (fun (y4 : St) => (f_X10_countOn y4).bind (fun s5 => some s5)) (fun K3 => lp (L_X10_lookAsOf_12 K3) NN (0, s2))))
noncomputable def f_X11_questions (a1 : Int32) (s : St) : Option (Int32 × St) :=
  (f_X11_within a1 1 12 s).bind (fun v1 => (if v1 = true then bv (s.1 1 2) (fun v2 => (f_X4_ask a1 s).bind (fun s3 => some (v2, s3))) else some ((-2), s)))
noncomputable def f_X11_type (a1 : Int32) (s : St) : Option (Int32 × St) :=
  (f_X11_within a1 0 255 s).bind (fun v1 => (if v1 = true then (if (s.1 1 1) < 12 then (f_X4_append a1 s).bind (fun s2 => some (s2.1 1 1, s2)) else some ((-4), s)) else some ((-2), s)))
noncomputable def f_X11_wipe  (s : St) : Option (Int32 × St) :=
  bv (s.1 1 1) (fun v1 => (f_X4_empty s).bind (fun s2 => some (v1, s2)))
noncomputable def f_X11_fault  (s : St) : Option Int32 :=
  some (s.1 1 3)
noncomputable def f_X11_isQuestion (a1 : Int32) (s : St) : Option Bool :=
  (f_X11_within a1 0 ((s.1 1 2) - 1) s).bind (fun v1 => some v1)
noncomputable def f_X11_key (a1 : Int32) (s : St) : Option Int32 :=
  (f_X11_isQuestion a1 s).bind (fun v1 => (if v1 = true then gd (inb a1 12) (some (s.1 11 a1.toNatClampNeg)) else some (-2)))
noncomputable def f_X11_set (a1 : Int32) (a2 : Int32) (s : St) : Option (Int32 × St) :=
  jn (fun (y2 : Unit) => jn (fun (y4 : Unit) => (if a1 = 2 then (f_X11_within a2 0 1000 s).bind (fun v5 => (if v5 = true then bv (s.1 6 0) (fun v6 => bd (wI s 6 0 a2) (fun s7 => some (v6, s7))) else some ((-5), s))) else some ((-5), s))) (fun K3 => (if a1 = 1 then (f_X11_within a2 0 100 s).bind (fun v8 => (if v8 = true then bv (s.1 4 0) (fun v9 => bd (wI s 4 0 a2) (fun s10 => some (v9, s10))) else K3 ())) else K3 ()))) (fun K1 => (if a1 = 0 then (f_X11_within a2 0 999 s).bind (fun v11 => (if v11 = true then bv (s.1 3 2) (fun v12 => (f_X10_lookAsOf a2 s).bind (fun s13 => some (v12, s13))) else K1 ())) else K1 ()))
noncomputable def f_X11_pupil (a1 : Int32) (a2 : Int32) (s : St) : Option (Int32 × St) :=
  (f_X11_within a1 0 3 s).bind (fun v1 => (if v1 = true then (f_X11_within a2 0 4 s).bind (fun v2 => (if v2 = true then (f_X7_isTaken a1 a2 s).bind (fun v3 => (if v3 = true then some ((-2), s) else (if (s.1 2 0) < 10 then (f_X7_seat a1 a2 s).bind (fun s4 => some ((s4.1 2 0) - 1, s4)) else some ((-4), s)))) else some ((-2), s))) else some ((-2), s)))
noncomputable def f_X11_isPupil (a1 : Int32) (s : St) : Option Bool :=
  (f_X11_within a1 0 ((s.1 2 0) - 1) s).bind (fun v1 => some v1)
noncomputable def f_X11_isNextTime (a1 : Int32) (s : St) : Option Bool :=
  (f_X10_latestTime s).bind (fun v1 => (f_X11_within a1 v1 999 s).bind (fun v2 => some v2))
noncomputable def f_X11_answer (a1 : Int32) (a2 : Int32) (a3 : Int32) (a4 : Int32) (s : St) : Option (Int32 × St) :=
  (f_X11_isPupil a1 s).bind (fun v1 => (if v1 = true then (f_X11_isQuestion a2 s).bind (fun v2 => (if v2 = true then (f_X11_within a3 0 5 s).bind (fun v3 => (if v3 = true then (f_X11_isNextTime a4 s).bind (fun v4 => (if v4 = true then (if (s.1 3 0) < 150 then (f_X10_tell a1 a2 a3 a4 s).bind (fun s5 => some (s5.1 3 0, s5)) else some ((-4), s)) else some ((-2), s))) else some ((-2), s))) else some ((-2), s))) else some ((-2), s)))
noncomputable def f_X11_isSheet (a0 : Int32) (s : St) : Option Bool :=
  (f_X11_within a0 0 3 s).bind (fun v1 => some v1)
noncomputable def f_X11_find (a1 : Int32) (s : St) : Option (Int32 × St) :=
  bd (wI s 0 11 a1) (fun s1 => some ((-10) - a1, s1))
noncomputable def L_X11_read_51 (a1 : Int32) (a2 : Int32) (a3 : Int32) (r4 : (Int32 × St) → Option (Int32 × St)) (x5 : Int32 × St) : Option (Int32 × St) :=
  (if x5.1 < (x5.2.1 (WC.2.2 31 a1.toNatClampNeg) 2) then gd (inb x5.1 48) ((f_X11_answer a2 x5.1 (x5.2.1 (WC.2.2 (WC.2.2 31 a1.toNatClampNeg) 3) x5.1.toNatClampNeg) a3 x5.2).bind (fun p6 => (if p6.1 < 0 then some (x5.1, p6.2) else r4 (x5.1 + 1, p6.2)))) else some (x5.1, x5.2))
noncomputable def f_X11_read (a1 : Int32) (a2 : Int32) (a3 : Int32) (s : St) : Option (Int32 × St) :=
  (f_X11_isSheet a1 s).bind (fun v1 => (if v1 = true then (f_X11_isPupil a2 s).bind (fun v2 => (if v2 = true then (f_X11_isNextTime a3 s).bind (fun v3 => (if v3 = true then gd (inb a1 4) ((if (s.1 (WC.2.2 31 a1.toNatClampNeg) 0) = 0 then lp (L_X11_read_51 a1 a2 a3) NN (0, s) else (f_X11_find 1 s).bind (fun p7 => some (p7.1, p7.2)))) else some ((-2), s))) else some ((-2), s))) else some ((-2), s)))
noncomputable def f_X11_said (a1 : Int32) (a2 : Int32) (s : St) : Option Int32 :=
  (f_X11_isPupil a1 s).bind (fun v1 => (if v1 = true then (f_X11_isQuestion a2 s).bind (fun v2 => (if v2 = true then gd (inb a1 10) (gd (inb a2 12) (some (s.1 (WC.2.2 32 a1.toNatClampNeg) a2.toNatClampNeg))) else some (-2))) else some (-2)))
noncomputable def f_X11_isPair (a1 : Int32) (a2 : Int32) (s : St) : Option Bool :=
  (f_X11_isPupil a1 s).bind (fun v1 => (if v1 = true then (f_X11_isPupil a2 s).bind (fun v2 => (if v2 = true then (if a1 = a2 then some false else some true) else some false)) else some false))
noncomputable def f_X11_beside (a1 : Int32) (a2 : Int32) (s : St) : Option Int32 :=
  (f_X11_isPair a1 a2 s).bind (fun v1 => (if v1 = true then (f_X7_areNear a1 a2 s).bind (fun v2 => (if v2 = true then some 1 else some 0)) else some (-2)))
noncomputable def f_X11_mark (a1 : Int32) (a2 : Int32) (s : St) : Option (Int32 × St) :=
  (f_X11_isPupil a1 s).bind (fun v1 => (if v1 = true then (if a2 = 0 then (f_X5_markOf a1 s).bind (fun v2 => some (v2, s)) else (if a2 = 1 then (f_X5_rankOf a1 s).bind (fun p3 => some (p3.1, p3.2)) else (if a2 = 2 then (f_X5_markOf a1 s).bind (fun v4 => (f_X5_passes v4 (s.1 1 4) s).bind (fun v5 => (if v5 = true then some (1, s) else some (0, s)))) else (if a2 = 3 then (f_X5_wrongsOf a1 s).bind (fun v6 => some (v6, s)) else some ((-2), s))))) else some ((-2), s)))
noncomputable def f_X11_shared (a1 : Int32) (a2 : Int32) (a3 : Int32) (s : St) : Option (Int32 × St) :=
  (f_X11_isPair a1 a2 s).bind (fun v1 => (if v1 = true then (if a3 = 0 then (f_X6_sameWrongs a1 a2 s).bind (fun v2 => some (v2, s)) else (if a3 = 1 then (f_X6_bothWrongs a1 a2 s).bind (fun v3 => some (v3, s)) else (if a3 = 2 then (f_X6_areOdd a1 a2 s).bind (fun p4 => (if p4.1 = true then some (1, p4.2) else some (0, p4.2))) else some ((-2), s)))) else some ((-2), s)))
noncomputable def f_X11_isPart (a0 : Int32) (s : St) : Option Bool :=
  (f_X11_within a0 0 1 s).bind (fun v1 => some v1)
noncomputable def f_X11_refusal (a0 : Int32) (s : St) : Option Int64 :=
  some ((-9223372036854775808) - a0.toInt64)
noncomputable def f_X11_chance (a1 : Int32) (a2 : Int32) (a3 : Int32) (s : St) : Option (Int64 × St) :=
  (f_X11_isPair a1 a2 s).bind (fun v1 => jn (fun (y3 : Unit) => (f_X11_refusal (-2) s).bind (fun v4 => some (v4, s))) (fun K2 => (if v1 = true then (f_X11_isPart a3 s).bind (fun v5 => (if v5 = true then (f_X6_reckonChance a1 a2 s).bind (fun p6 => (if p6.1 = true then (f_X1_part a3 p6.2).bind (fun v7 => some (v7, p6.2)) else (f_X11_refusal (-4) p6.2).bind (fun v8 => some (v8, p6.2)))) else K2 ())) else K2 ())))
noncomputable def f_X11_seats (a1 : Int32) (s : St) : Option (Int32 × St) :=
  (if a1 = 0 then (f_X6_besideInAll s).bind (fun v1 => some (v1, s)) else (if a1 = 1 then (f_X0_millionths s).bind (fun p2 => some (p2.1, p2.2)) else some ((-2), s)))
noncomputable def f_X11_sources  (s : St) : Option (Int32 × St) :=
  (f_X2_link s).bind (fun s1 => (f_X2_fewest s1).bind (fun v2 => some (v2, s1)))
noncomputable def f_X11_from (a1 : Int32) (a2 : Int32) (s : St) : Option (Int32 × St) :=
  (f_X11_isPair a1 a2 s).bind (fun v1 => (if v1 = true then (f_X7_areNear a1 a2 s).bind (fun v2 => (if v2 = true then (f_X6_areOdd a1 a2 s).bind (fun p3 => (if p3.1 = true then (f_X2_weigh p3.2).bind (fun s4 => (f_X2_giver a1 a2 s4).bind (fun v5 => some (v5, s4))) else some ((-3), p3.2))) else some ((-3), s))) else some ((-2), s)))
noncomputable def f_X11_chain  (s : St) : Option (Int32 × St) :=
  (f_X2_link s).bind (fun s1 => (f_X2_weigh s1).bind (fun s2 => (f_X2_longestChain s2).bind (fun p3 => some (p3.1, p3.2))))
noncomputable def f_X11_rubbed (a1 : Int32) (a2 : Int32) (s : St) : Option Int32 :=
  (f_X11_isPupil a1 s).bind (fun v1 => (if v1 = true then (f_X11_within a2 0 2 s).bind (fun v2 => (if v2 = true then (f_X8_countOf (1 <<< (a1 &&& 31)) a2 s).bind (fun v3 => some v3) else some (-2))) else some (-2)))
noncomputable def f_X11_gains (a1 : Int32) (a2 : Int32) (s : St) : Option (Int64 × St) :=
  (f_X11_within a1 0 1023 s).bind (fun v1 => jn (fun (y3 : Unit) => (f_X11_refusal (-2) s).bind (fun v4 => some (v4, s))) (fun K2 => (if v1 = true then (f_X11_isPart a2 s).bind (fun v5 => (if v5 = true then (f_X8_countOf 1023 0 s).bind (fun v6 => (if 60 < v6 then (f_X11_refusal (-4) s).bind (fun v9 => some (v9, s)) else (f_X8_reckonGains a1 s).bind (fun s7 => (f_X1_part a2 s7).bind (fun v8 => some (v8, s7))))) else K2 ())) else K2 ())))
noncomputable def L_X11_known_65 (a2 : Int32) (s : St) (v5 : Int32) (v7 : Int32) (r8 : (Int32 × Int32) → Option Int32) (x9 : Int32 × Int32) : Option Int32 :=
  (if x9.1 < (s.1 1 2) then (f_X5_rightsTo x9.1 v5 s).bind (fun v10 => (f_J6_bitCount_0f7a4 v5 s).bind (fun v11 => jn (fun (y13 : Bool) => (f_X5_rightsTo x9.1 v7 s).bind (fun v14 => (f_J6_bitCount_0f7a4 v7 s).bind (fun v15 => jn (fun (y17 : Bool) => gd (inb x9.1 12) ((if (s.1 11 x9.1.toNatClampNeg) = 0 then r8 (x9.1 + 1, x9.2) else (if y13 = true then (if y17 = true then bv (x9.2 ||| (1 <<< (x9.1 &&& 31))) (fun v18 => r8 (x9.1 + 1, v18)) else r8 (x9.1 + 1, x9.2)) else r8 (x9.1 + 1, x9.2))))) (fun K16 => (if (a2 * v15) < (v14 * 100) then K16 false else K16 true))))) (fun K12 => (if v10 = v11 then K12 true else K12 false)))) else some x9.2)
noncomputable def f_X11_known (a1 : Int32) (a2 : Int32) (s : St) : Option Int32 :=
  (f_X11_within a1 1 1023 s).bind (fun v1 => (if v1 = true then (f_X7_allBits s).bind (fun v2 => (if (a1 &&& v2) = 0 then some (-2) else (f_X11_within a2 0 100 s).bind (fun v3 => (if v3 = true then (f_X7_allBits s).bind (fun v4 => bv (a1 &&& v4) (fun v5 => (f_X7_allBits s).bind (fun v6 => bv (v6 &&& (a1 ^^^ (-1))) (fun v7 => lp (L_X11_known_65 a2 s v5 v7) NN (0, 0))))) else some (-2))))) else some (-2)))
noncomputable def f_X11_lead (a1 : Int32) (a2 : Int32) (a3 : Int32) (s : St) : Option (Int64 × St) :=
  (f_X11_isQuestion a1 s).bind (fun v1 => jn (fun (y3 : Unit) => (f_X11_refusal (-2) s).bind (fun v4 => some (v4, s))) (fun K2 => (if v1 = true then (f_X11_within a2 0 1023 s).bind (fun v5 => (if v5 = true then (f_X11_isPart a3 s).bind (fun v6 => (if v6 = true then (f_X7_allBits s).bind (fun v7 => bv (a2 &&& v7) (fun v8 => (f_X7_allBits s).bind (fun v9 => bv (v9 &&& (a2 ^^^ (-1))) (fun v10 => jn (fun (y12 : Unit) => (f_X11_refusal (-3) s).bind (fun v13 => some (v13, s))) (fun K11 => (if v8 = 0 then K11 () else (if v10 = 0 then K11 () else gd (inb a1 12) ((if (s.1 11 a1.toNatClampNeg) = 0 then K11 () else (f_X5_rightsTo a1 v8 s).bind (fun v14 => (f_J6_bitCount_0f7a4 v10 s).bind (fun v15 => (f_X5_rightsTo a1 v10 s).bind (fun v16 => (f_J6_bitCount_0f7a4 v8 s).bind (fun v17 => bl (((v14 * v15) - (v16 * v17)).toInt64) (fun v18 => (f_J6_bitCount_0f7a4 v8 s).bind (fun v19 => (f_J6_bitCount_0f7a4 v10 s).bind (fun v20 => (f_X1_become v18 ((v19 * v20).toInt64) s).bind (fun s21 => (f_X1_part a3 s21).bind (fun v22 => some (v22, s21))))))))))))))))))) else K2 ())) else K2 ())) else K2 ())))
noncomputable def f_X11_rest (a1 : Int32) (a2 : Int32) (a3 : Int32) (s : St) : Option (Int64 × St) :=
  (f_X11_isQuestion a1 s).bind (fun v1 => jn (fun (y3 : Unit) => (f_X11_refusal (-2) s).bind (fun v4 => some (v4, s))) (fun K2 => (if v1 = true then (f_X11_within a2 1 5 s).bind (fun v5 => (if v5 = true then (f_X11_isPart a3 s).bind (fun v6 => (if v6 = true then (f_X3_choosersOf a1 a2 s).bind (fun v7 => (if v7 = 0 then (f_X11_refusal (-3) s).bind (fun v11 => some (v11, s)) else (f_X3_restsOf a1 a2 s).bind (fun v8 => (f_X1_become v8.toInt64 v7.toInt64 s).bind (fun s9 => (f_X1_part a3 s9).bind (fun v10 => some (v10, s9)))))) else K2 ())) else K2 ())) else K2 ())))
noncomputable def f_X11_should (a1 : Int32) (s : St) : Option Int32 :=
  (f_X11_isQuestion a1 s).bind (fun v1 => (if v1 = true then (f_X3_bestChoice a1 s).bind (fun v2 => some v2) else some (-2)))
noncomputable def L_X11_badly_4 (s : St) (r1 : (Int32 × Int32) → Option Int32) (x2 : Int32 × Int32) : Option Int32 :=
  (if x2.1 < (s.1 1 2) then gd (inb x2.1 12) (jn (fun (y4 : Int32) => (if y4 = (-1) then r1 (x2.1 + 1, x2.2) else gd (inb x2.1 12) ((if y4 = (s.1 11 x2.1.toNatClampNeg) then r1 (x2.1 + 1, x2.2) else bv (x2.2 ||| (1 <<< (x2.1 &&& 31))) (fun v5 => r1 (x2.1 + 1, v5)))))) (fun K3 => (if (s.1 11 x2.1.toNatClampNeg) = 0 then K3 (-1) else (f_X3_bestChoice x2.1 s).bind (fun v6 => K3 v6)))) else some x2.2)
noncomputable def f_X11_badly  (s : St) : Option Int32 :=
  lp (L_X11_badly_4 s) NN (0, 0)
noncomputable def f_X11_without (a1 : Int32) (a2 : Int32) (s : St) : Option (Int32 × St) :=
  (f_X11_isQuestion a1 s).bind (fun v1 => (if v1 = true then (f_X11_within a2 0 1 s).bind (fun v2 => (if v2 = true then (if a2 = 0 then (f_X5_otherRanks a1 s).bind (fun p4 => some (p4.1, p4.2)) else (f_X5_otherPasses a1 s).bind (fun v3 => some (v3, s))) else some ((-2), s))) else some ((-2), s)))
noncomputable def f_X11_hard (a1 : Int32) (a2 : Int32) (s : St) : Option (Int64 × St) :=
  (f_X11_isQuestion a1 s).bind (fun v1 => jn (fun (y3 : Unit) => (f_X11_refusal (-2) s).bind (fun v4 => some (v4, s))) (fun K2 => (if v1 = true then (f_X11_isPart a2 s).bind (fun v5 => (if v5 = true then jn (fun (y7 : Unit) => (f_X11_refusal (-3) s).bind (fun v8 => some (v8, s))) (fun K6 => (if (s.1 2 0) = 0 then K6 () else gd (inb a1 12) ((if (s.1 11 a1.toNatClampNeg) = 0 then K6 () else (f_X7_allBits s).bind (fun v9 => (f_X5_rightsTo a1 v9 s).bind (fun v10 => (f_X1_become v10.toInt64 ((s.1 2 0).toInt64) s).bind (fun s11 => (f_X1_part a2 s11).bind (fun v12 => some (v12, s11))))))))) else K2 ())) else K2 ())))
noncomputable def f_X11_parts (a1 : Int32) (a2 : Int32) (s : St) : Option (Int64 × St) :=
  (f_X11_isQuestion a1 s).bind (fun v1 => jn (fun (y3 : Unit) => (f_X11_refusal (-2) s).bind (fun v4 => some (v4, s))) (fun K2 => (if v1 = true then (f_X11_isPart a2 s).bind (fun v5 => (if v5 = true then jn (fun (y7 : Unit) => (f_X11_refusal (-3) s).bind (fun v8 => some (v8, s))) (fun K6 => (if (s.1 2 0) < 2 then K6 () else gd (inb a1 12) ((if (s.1 11 a1.toNatClampNeg) = 0 then K6 () else (f_X3_betterLessWorse a1 s).bind (fun p9 => gd (2 != (0 : Int32)) ((f_X1_become p9.1.toInt64 (((p9.2.1 2 0) / 2).toInt64) p9.2).bind (fun s10 => (f_X1_part a2 s10).bind (fun v11 => some (v11, s10))))))))) else K2 ())) else K2 ())))
noncomputable def f_X11_sheet (a1 : Int32) (a2 : Int32) (a3 : Int32) (s : St) : Option (Int32 × St) :=
  (f_X11_isSheet a1 s).bind (fun v1 => (if v1 = true then (f_X11_within a2 0 2 s).bind (fun v2 => (if v2 = true then (if 48 < a3 then some ((-2), s) else (if a3 < 0 then (f_X11_find 5 s).bind (fun p4 => some (p4.1, p4.2)) else gd (inb a1 4) ((f_X9_renew (WC.2.2 31 a1.toNatClampNeg) a2 a3 s).bind (fun s3 => some (a3, s3))))) else some ((-2), s))) else some ((-2), s)))
noncomputable def f_X11_lose (a1 : Int32) (s : St) : Option (Int32 × St) :=
  (f_X11_isSheet a1 s).bind (fun v1 => (if v1 = true then gd (inb a1 4) ((if (s.1 (WC.2.2 31 a1.toNatClampNeg) 0) = 0 then gd (inb a1 4) (bd (wI s (WC.2.2 31 a1.toNatClampNeg) 0 1) (fun s2 => gd (inb a1 4) (some (s2.1 (WC.2.2 31 a1.toNatClampNeg) 2, s2)))) else (f_X11_find 1 s).bind (fun p3 => some (p3.1, p3.2)))) else some ((-2), s)))
noncomputable def f_X11_put (a1 : Int32) (a2 : Int32) (a3 : Int32) (a4 : Int32) (s : St) : Option (Int32 × St) :=
  (f_X11_isSheet a1 s).bind (fun v1 => (if v1 = true then (f_X11_within a2 0 2 s).bind (fun v2 => (if v2 = true then gd (inb a1 4) ((f_X9_findingAt (WC.2.2 31 a1.toNatClampNeg) a2 a3 s).bind (fun v3 => (if v3 = 0 then gd (inb a1 4) ((f_X9_store (WC.2.2 31 a1.toNatClampNeg) a3 a4 s).bind (fun s4 => some (1, s4))) else (f_X11_find v3 s).bind (fun p5 => some (p5.1, p5.2))))) else some ((-2), s))) else some ((-2), s)))
noncomputable def f_X11_get (a1 : Int32) (a2 : Int32) (a3 : Int32) (s : St) : Option (Int32 × St) :=
  (f_X11_isSheet a1 s).bind (fun v1 => (if v1 = true then (f_X11_within a2 0 2 s).bind (fun v2 => (if v2 = true then gd (inb a1 4) ((f_X9_findingAt (WC.2.2 31 a1.toNatClampNeg) a2 a3 s).bind (fun v3 => (if v3 = 0 then gd (inb a1 4) (gd (inb a3 48) (some (s.1 (WC.2.2 (WC.2.2 31 a1.toNatClampNeg) 3) a3.toNatClampNeg, s))) else (f_X11_find v3 s).bind (fun p4 => some ((-2147483648), p4.2))))) else some ((-2147483648), s))) else some ((-2147483648), s)))
noncomputable def f_X11_copy (a1 : Int32) (a2 : Int32) (a3 : Int32) (a4 : Int32) (a5 : Int32) (s : St) : Option (Int32 × St) :=
  (f_X11_isSheet a1 s).bind (fun v1 => (if v1 = true then (f_X11_isSheet a3 s).bind (fun v2 => (if v2 = true then gd (inb a1 4) (gd (inb a3 4) (jn (fun (y4 : Unit) => (f_X11_find 1 s).bind (fun p5 => some (p5.1, p5.2))) (fun K3 => (if (s.1 (WC.2.2 31 a1.toNatClampNeg) 0) = 0 then (if (s.1 (WC.2.2 31 a3.toNatClampNeg) 0) = 0 then (if (s.1 (WC.2.2 31 a1.toNatClampNeg) 1) = (s.1 (WC.2.2 31 a3.toNatClampNeg) 1) then (f_X9_holds (WC.2.2 31 a1.toNatClampNeg) a2 a5 s).bind (fun v6 => jn (fun (y8 : Unit) => (f_X11_find 2 s).bind (fun p9 => some (p9.1, p9.2))) (fun K7 => (if v6 = true then (f_X9_holds (WC.2.2 31 a3.toNatClampNeg) a4 a5 s).bind (fun v10 => (if v10 = true then gd (cpb a2 a4 a5 48 48) (bd (wA s (WC.2.2 (WC.2.2 31 a3.toNatClampNeg) 3) (va_cpy (s.1 (WC.2.2 (WC.2.2 31 a1.toNatClampNeg) 3)) (s.1 (WC.2.2 (WC.2.2 31 a3.toNatClampNeg) 3)) a2.toNatClampNeg a4.toNatClampNeg a5.toNatClampNeg)) (fun s11 => some (1, s11))) else K7 ())) else K7 ()))) else (f_X11_find 4 s).bind (fun p12 => some (p12.1, p12.2))) else K3 ()) else K3 ())))) else some ((-2), s))) else some ((-2), s)))
noncomputable def L_X11_write_57 (a1 : Int32) (a2 : Int32) (v3 : Int32) (r4 : (Int32 × St) → Option (Int32 × St)) (x5 : Int32 × St) : Option (Int32 × St) :=
  (if x5.1 < v3 then gd (inb a1 10) (gd (inb x5.1 12) ((f_X9_store (WC.2.2 31 a2.toNatClampNeg) x5.1 (x5.2.1 (WC.2.2 32 a1.toNatClampNeg) x5.1.toNatClampNeg) x5.2).bind (fun s6 => r4 (x5.1 + 1, s6)))) else some (v3, x5.2))
noncomputable def f_X11_write (a1 : Int32) (a2 : Int32) (s : St) : Option (Int32 × St) :=
  (f_X11_isPupil a1 s).bind (fun v1 => (if v1 = true then (f_X11_isSheet a2 s).bind (fun v2 => (if v2 = true then gd (inb a2 4) ((if (s.1 (WC.2.2 31 a2.toNatClampNeg) 0) = 0 then (f_J9_min_7cf53 (s.1 (WC.2.2 31 a2.toNatClampNeg) 2) (s.1 1 2) s).bind (fun v3 => lp (L_X11_write_57 a1 a2 v3) NN (0, s)) else (f_X11_find 1 s).bind (fun p7 => some (p7.1, p7.2)))) else some ((-2), s))) else some ((-2), s)))
noncomputable def L_X11_answersGiven_17 (s : St) (r1 : (Int32 × Int32) → Option Int32) (x2 : Int32 × Int32) (r3 : (Int32 × Int32) → Option Int32) (x4 : Int32 × Int32) : Option Int32 :=
  (if x4.1 < (s.1 1 2) then gd (inb x2.1 10) (gd (inb x4.1 12) ((if (s.1 (WC.2.2 32 x2.1.toNatClampNeg) x4.1.toNatClampNeg) = 0 then r3 (x4.1 + 1, x4.2) else r3 (x4.1 + 1, x4.2 + 1)))) else r1 (x2.1 + 1, x4.2))
noncomputable def L_X11_answersGiven_4 (s : St) (r1 : (Int32 × Int32) → Option Int32) (x2 : Int32 × Int32) : Option Int32 :=
  (if x2.1 < (s.1 2 0) then lp (L_X11_answersGiven_17 s r1 x2) NN (0, x2.2) else some x2.2)
noncomputable def f_X11_answersGiven  (s : St) : Option Int32 :=
  lp (L_X11_answersGiven_4 s) NN (0, 0)
noncomputable def f_X11_count (a1 : Int32) (s : St) : Option (Int32 × St) :=
  (if a1 = 0 then some (s.1 1 2, s) else (if a1 = 1 then some (s.1 1 4, s) else (if a1 = 2 then some (s.1 2 0, s) else (if a1 = 3 then some (s.1 3 0, s) else (if a1 = 4 then (f_X11_answersGiven s).bind (fun v1 => some (v1, s)) else (if a1 = 5 then (f_X5_together s).bind (fun v2 => some (v2, s)) else (if a1 = 6 then (f_X6_oddPairs s).bind (fun p3 => some (p3.1, p3.2)) else (if a1 = 7 then (f_X8_countOf 1023 0 s).bind (fun v4 => some (v4, s)) else (if a1 = 8 then some (s.1 0 11, s) else some ((-2), s))))))))))
noncomputable def L_X11_withPupil_38 (a3 : Int32) (y2 : Int64 × St) (r3 : (Int32 × Int64) → Option (Int64 × St)) (x4 : Int32 × Int64) : Option (Int64 × St) :=
  (if 2 < x4.1 then some (x4.2, y2.2) else (f_X11_rubbed a3 x4.1 y2.2).bind (fun v5 => bl ((31 * x4.2) + v5.toInt64) (fun v6 => r3 (x4.1 + 1, v6))))
noncomputable def L_X11_withPupil_6 (a3 : Int32) (K1 : (Int64 × St) → Option (Int64 × St)) (r7 : (Int32 × Int64 × St) → Option (Int64 × St)) (x8 : Int32 × Int64 × St) : Option (Int64 × St) :=
  (if 3 < x8.1 then K1 (x8.2.1, x8.2.2) else (f_X11_mark a3 x8.1 x8.2.2).bind (fun p9 => bl ((31 * x8.2.1) + p9.1.toInt64) (fun v10 => r7 (x8.1 + 1, v10, p9.2))))
noncomputable def f_X11_withPupil (a1 : Int64) (a3 : Int32) (s : St) : Option (Int64 × St) :=
  jn (fun (y2 : Int64 × St) => lp (L_X11_withPupil_38 a3 y2) NN (0, y2.1)) (fun K1 => lp (L_X11_withPupil_6 a3 K1) NN (0, a1, s))
noncomputable def f_X11_withQuestion (a1 : Int64) (a3 : Int32) (s : St) : Option (Int64 × St) :=
  (f_X11_key a3 s).bind (fun v1 => bl ((31 * a1) + v1.toInt64) (fun v2 => (f_X11_should a3 s).bind (fun v3 => bl ((31 * v2) + v3.toInt64) (fun v4 => (f_X11_without a3 0 s).bind (fun p5 => bl ((31 * v4) + p5.1.toInt64) (fun v6 => (f_X11_without a3 1 p5.2).bind (fun p7 => bl ((31 * v6) + p7.1.toInt64) (fun v8 => (f_X11_hard a3 0 p7.2).bind (fun p9 => bl ((31 * v8) + p9.1) (fun v10 => (f_X11_hard a3 1 p9.2).bind (fun p11 => bl ((31 * v10) + p11.1) (fun v12 => (f_X11_parts a3 0 p11.2).bind (fun p13 => bl ((31 * v12) + p13.1) (fun v14 => (f_X11_parts a3 1 p13.2).bind (fun p15 => some ((31 * v14) + p15.1, p15.2))))))))))))))))
noncomputable def L_X11_digest_134 (K17 : (Int64 × St) → Option (Int64 × St)) (r20 : (Int32 × Int64 × St) → Option (Int64 × St)) (x21 : Int32 × Int64 × St) : Option (Int64 × St) :=
  (if x21.1 < (x21.2.2.1 1 2) then (f_X11_withQuestion x21.2.1 x21.1 x21.2.2).bind (fun p22 => r20 (x21.1 + 1, p22.1, p22.2)) else K17 (x21.2.1, x21.2.2))
noncomputable def L_X11_digest_45 (K5 : (Int64 × St) → Option (Int64 × St)) (r23 : (Int32 × Int64 × St) → Option (Int64 × St)) (x24 : Int32 × Int64 × St) : Option (Int64 × St) :=
  (if x24.1 < (x24.2.2.1 2 0) then (f_X11_withPupil x24.2.1 x24.1 x24.2.2).bind (fun p25 => r23 (x24.1 + 1, p25.1, p25.2)) else K5 (x24.2.1, x24.2.2))
noncomputable def L_X11_digest_6 (K1 : (Int64 × St) → Option (Int64 × St)) (r26 : (Int32 × Int64 × St) → Option (Int64 × St)) (x27 : Int32 × Int64 × St) : Option (Int64 × St) :=
  (if 7 < x27.1 then K1 (x27.2.1, x27.2.2) else (f_X11_count x27.1 x27.2.2).bind (fun p28 => bl ((31 * x27.2.1) + p28.1.toInt64) (fun v29 => r26 (x27.1 + 1, v29, p28.2))))
noncomputable def f_X11_digest  (s : St) : Option (Int64 × St) :=
  jn (fun (y2 : Int64 × St) => (f_X11_fault y2.2).bind (fun v3 => bl ((31 * y2.1) + v3.toInt64) (fun v4 => jn (fun (y6 : Int64 × St) => (f_X11_seats 0 y6.2).bind (fun p7 => bl ((31 * y6.1) + p7.1.toInt64) (fun v8 => (f_X11_sources p7.2).bind (fun p9 => bl ((31 * v8) + p9.1.toInt64) (fun v10 => (f_X11_chain p9.2).bind (fun p11 => bl ((31 * v10) + p11.1.toInt64) (fun v12 => (f_X11_gains 1 0 p11.2).bind (fun p13 => bl ((31 * v12) + p13.1) (fun v14 => (f_X11_gains 1 1 p13.2).bind (fun p15 => bl ((31 * v14) + p15.1) (fun v16 => jn (fun (y18 : Int64 × St) => (f_X11_badly y18.2).bind (fun v19 => some ((31 * y18.1) + v19.toInt64, y18.2))) (fun K17 => lp (L_X11_digest_134 K17) NN (0, v16, p15.2))))))))))))) (fun K5 => lp (L_X11_digest_45 K5) NN (0, v4, y2.2))))) (fun K1 => lp (L_X11_digest_6 K1) NN (0, 17, s))
noncomputable def f_X12_in (a0 : Int32) (a1 : Int32) (a2 : Int32) (s : St) : Option Bool :=
  (if a0 < a1 then some false else (if a2 < a0 then some false else some true))
noncomputable def f_X12_isIn (a0 : Int32) (a1 : Int32) (s : St) : Option Bool :=
  (if ((a0 >>> (a1 &&& 31)) &&& 1) = 1 then some true else some false)
noncomputable def L_X12_ones_4 (a0 : Int32) (r1 : (Int32 × Int32) → Option Int32) (x2 : Int32 × Int32) : Option Int32 :=
  (if x2.1 < 12 then bv (x2.2 + ((a0 >>> (x2.1 &&& 31)) &&& 1)) (fun v3 => r1 (x2.1 + 1, v3)) else some x2.2)
noncomputable def f_X12_ones (a0 : Int32) (s : St) : Option Int32 :=
  lp (L_X12_ones_4 a0) NN (0, 0)
noncomputable def f_X12_no (a0 : Int32) (s : St) : Option Int64 :=
  some ((-9223372036854775808) - a0.toInt64)
noncomputable def L_X12_lowest_17 (K3 : Int64 → Option Int64) (r5 : (Int64 × Int64) → Option Int64) (x6 : Int64 × Int64) : Option Int64 :=
  (if x6.1 = 0 then K3 x6.2 else gd (x6.1 != (0 : Int64)) (bl (x6.2 - x6.2 / x6.1 * x6.1) (fun v7 => r5 (v7, x6.1))))
noncomputable def f_X12_lowest (a0 : Int64) (a2 : Int64) (a4 : Int32) (s : St) : Option Int64 :=
  jn (fun (y2 : Int64) => jn (fun (y4 : Int64) => (if a4 = 0 then gd (y4 != (0 : Int64)) (some (a0 / y4)) else gd (y4 != (0 : Int64)) (some (a2 / y4)))) (fun K3 => lp (L_X12_lowest_17 K3) NN (a2, y2))) (fun K1 => (if a0 < 0 then K1 (0 - a0) else K1 a0))
noncomputable def L_X12_choose_18 (a0 : Int32) (a1 : Int32) (r4 : (Int32 × Int64) → Option Int64) (x5 : Int32 × Int64) : Option Int64 :=
  (if x5.1 < a1 then (if 0 < x5.2 then gd ((x5.1.toInt64 + 1) != (0 : Int64)) (bl ((x5.2 * ((a0 - x5.1).toInt64)) / (x5.1.toInt64 + 1)) (fun v6 => r4 (x5.1 + 1, v6))) else some x5.2) else some x5.2)
noncomputable def f_X12_choose (a0 : Int32) (a1 : Int32) (s : St) : Option Int64 :=
  (f_X12_in a1 0 a0 s).bind (fun v1 => jn (fun (y3 : Int64) => lp (L_X12_choose_18 a0 a1) NN (0, y3)) (fun K2 => (if v1 = true then K2 1 else K2 0)))
noncomputable def f_X12_isQuestion (a1 : Int32) (s : St) : Option Bool :=
  (f_X12_in a1 0 ((s.1 0 0) - 1) s).bind (fun v1 => some v1)
noncomputable def f_X12_questions (a1 : Int32) (s : St) : Option (Int32 × St) :=
  (f_X12_in a1 1 12 s).bind (fun v1 => (if v1 = true then bv (s.1 0 0) (fun v2 => bd (wI s 0 0 a1) (fun s3 => some (v2, s3))) else some ((-2), s)))
noncomputable def f_X12_type (a1 : Int32) (s : St) : Option (Int32 × St) :=
  (f_X12_in a1 0 255 s).bind (fun v1 => (if v1 = true then (if (s.1 0 1) = 12 then some ((-4), s) else gd (inb (s.1 0 1) 12) (bd (wI s 1 (s.1 0 1).toNatClampNeg a1) (fun s2 => bd (wI s2 0 1 ((s2.1 0 1) + 1)) (fun s3 => some (s3.1 0 1, s3))))) else some ((-2), s)))
noncomputable def f_X12_wipe  (s : St) : Option (Int32 × St) :=
  bv (s.1 0 1) (fun v1 => bd (wI s 0 1 0) (fun s2 => some (v1, s2)))
noncomputable def L_X12_faultNow_23 (y2 : St) (K3 : Unit → Option (Int32 × St)) (r5 : Int32 → Option (Int32 × St)) (x6 : Int32) : Option (Int32 × St) :=
  (if x6 < (y2.1 0 0) then jn (fun (y8 : Bool) => (if y8 = true then r5 (x6 + 1) else some (x6, y2))) (fun K7 => (if x6 < (y2.1 0 1) then gd (inb x6 12) ((if (y2.1 1 x6.toNatClampNeg) = 63 then K7 true else gd (inb x6 12) ((f_X12_in (y2.1 1 x6.toNatClampNeg) 49 53 y2).bind (fun v9 => (if v9 = true then K7 true else K7 false))))) else K7 false)) else K3 ())
noncomputable def L_X12_faultNow_2 (K1 : St → Option (Int32 × St)) (r10 : (Int32 × St) → Option (Int32 × St)) (x11 : Int32 × St) : Option (Int32 × St) :=
  (if x11.1 < 12 then gd (inb x11.1 12) (bd (wI x11.2 2 x11.1.toNatClampNeg 0) (fun s12 => r10 (x11.1 + 1, s12))) else K1 x11.2)
noncomputable def f_X12_faultNow  (s : St) : Option (Int32 × St) :=
  jn (fun (y2 : St) => jn (fun (y4 : Unit) => (if (y2.1 0 0) < (y2.1 0 1) then some (y2.1 0 0, y2) else some ((-1), y2))) (fun K3 => lp (L_X12_faultNow_23 y2 K3) NN 0)) (fun K1 => lp (L_X12_faultNow_2 K1) NN (0, s))
noncomputable def L_X12_keyNow_7 (p1 : Int32 × St) (r2 : (Int32 × St) → Option (Int32 × St)) (x3 : Int32 × St) : Option (Int32 × St) :=
  (if x3.1 < (x3.2.1 0 0) then (if p1.1 = (-1) then gd (inb x3.1 12) (jn (fun (y5 : Int32) => gd (inb x3.1 12) (bd (wI x3.2 2 x3.1.toNatClampNeg y5) (fun s6 => r2 (x3.1 + 1, s6)))) (fun K4 => (if (x3.2.1 1 x3.1.toNatClampNeg) = 63 then K4 0 else gd (inb x3.1 12) (K4 ((x3.2.1 1 x3.1.toNatClampNeg) - 48))))) else some (p1.1, x3.2)) else some (p1.1, x3.2))
noncomputable def f_X12_keyNow  (s : St) : Option (Int32 × St) :=
  (f_X12_faultNow s).bind (fun p1 => lp (L_X12_keyNow_7 p1) NN (0, p1.2))
noncomputable def f_X12_fault  (s : St) : Option (Int32 × St) :=
  (f_X12_faultNow s).bind (fun p1 => some (p1.1, p1.2))
noncomputable def f_X12_keyOf (a1 : Int32) (s : St) : Option (Int32 × St) :=
  (f_X12_keyNow s).bind (fun p1 => gd (inb a1 12) (some (p1.2.1 2 a1.toNatClampNeg, p1.2)))
noncomputable def f_X12_key (a1 : Int32) (s : St) : Option (Int32 × St) :=
  (f_X12_isQuestion a1 s).bind (fun v1 => (if v1 = true then (f_X12_keyOf a1 s).bind (fun p2 => some (p2.1, p2.2)) else some ((-2), s)))
noncomputable def f_X12_set (a1 : Int32) (a2 : Int32) (s : St) : Option (Int32 × St) :=
  (f_X12_in a1 0 2 s).bind (fun v1 => (if v1 = true then jn (fun (y3 : Int32) => (f_X12_in a2 0 y3 s).bind (fun v4 => (if v4 = true then gd (inb a1 3) (bv (s.1 3 a1.toNatClampNeg) (fun v5 => gd (inb a1 3) (bd (wI s 3 a1.toNatClampNeg a2) (fun s6 => some (v5, s6))))) else some ((-5), s)))) (fun K2 => (if a1 = 0 then K2 999 else (if a1 = 1 then K2 100 else K2 1000))) else some ((-5), s)))
noncomputable def f_X12_isPupil (a1 : Int32) (s : St) : Option Bool :=
  (f_X12_in a1 0 ((s.1 0 5) - 1) s).bind (fun v1 => some v1)
noncomputable def L_X12_pupil_23 (a1 : Int32) (a2 : Int32) (s : St) (K3 : Unit → Option (Int32 × St)) (r8 : Int32 → Option (Int32 × St)) (x9 : Int32) : Option (Int32 × St) :=
  (if x9 < (s.1 0 5) then gd (inb x9 10) ((if (s.1 4 x9.toNatClampNeg) = a1 then gd (inb x9 10) ((if (s.1 5 x9.toNatClampNeg) = a2 then some ((-2), s) else r8 (x9 + 1))) else r8 (x9 + 1))) else K3 ())
noncomputable def f_X12_pupil (a1 : Int32) (a2 : Int32) (s : St) : Option (Int32 × St) :=
  (f_X12_in a1 0 3 s).bind (fun v1 => (if v1 = true then (f_X12_in a2 0 4 s).bind (fun v2 => (if v2 = true then jn (fun (y4 : Unit) => (if (s.1 0 5) = 10 then some ((-4), s) else gd (inb (s.1 0 5) 10) (bd (wI s 4 (s.1 0 5).toNatClampNeg a1) (fun s5 => gd (inb (s5.1 0 5) 10) (bd (wI s5 5 (s5.1 0 5).toNatClampNeg a2) (fun s6 => bd (wI s6 0 5 ((s6.1 0 5) + 1)) (fun s7 => some ((s7.1 0 5) - 1, s7)))))))) (fun K3 => lp (L_X12_pupil_23 a1 a2 s K3) NN 0) else some ((-2), s))) else some ((-2), s)))
noncomputable def f_X12_lastTime  (s : St) : Option Int32 :=
  (if (s.1 0 8) = 0 then some 0 else gd (inb ((s.1 0 8) - 1) 150) (some (s.1 9 ((s.1 0 8) - 1).toNatClampNeg)))
noncomputable def f_X12_more (a1 : Int32) (a2 : Int32) (a3 : Int32) (a4 : Int32) (s : St) : Option (Int32 × St) :=
  (f_X12_isPupil a1 s).bind (fun v1 => (if v1 = true then (f_X12_isQuestion a2 s).bind (fun v2 => (if v2 = true then (f_X12_in a3 0 5 s).bind (fun v3 => (if v3 = true then (f_X12_lastTime s).bind (fun v4 => (f_X12_in a4 v4 999 s).bind (fun v5 => (if v5 = true then (if (s.1 0 8) = 150 then some ((-4), s) else gd (inb (s.1 0 8) 150) (bd (wI s 6 (s.1 0 8).toNatClampNeg a1) (fun s6 => gd (inb (s6.1 0 8) 150) (bd (wI s6 7 (s6.1 0 8).toNatClampNeg a2) (fun s7 => gd (inb (s7.1 0 8) 150) (bd (wI s7 8 (s7.1 0 8).toNatClampNeg a3) (fun s8 => gd (inb (s8.1 0 8) 150) (bd (wI s8 9 (s8.1 0 8).toNatClampNeg a4) (fun s9 => bd (wI s9 0 8 ((s9.1 0 8) + 1)) (fun s10 => some (s10.1 0 8, s10))))))))))) else some ((-2), s)))) else some ((-2), s))) else some ((-2), s))) else some ((-2), s)))
noncomputable def f_X12_answer (a1 : Int32) (a2 : Int32) (a3 : Int32) (a4 : Int32) (s : St) : Option (Int32 × St) :=
  (f_X12_more a1 a2 a3 a4 s).bind (fun p1 => some (p1.1, p1.2))
noncomputable def f_X12_isSheet (a0 : Int32) (s : St) : Option Bool :=
  (f_X12_in a0 0 3 s).bind (fun v1 => some v1)
noncomputable def f_X12_meets (a1 : Int32) (s : St) : Option (Int32 × St) :=
  bd (wI s 0 29 a1) (fun s1 => some ((-10) - a1, s1))
noncomputable def L_X12_read_50 (a1 : Int32) (a2 : Int32) (a3 : Int32) (r5 : (Int32 × St) → Option (Int32 × St)) (x6 : Int32 × St) : Option (Int32 × St) :=
  gd (inb a1 4) ((if x6.1 < (x6.2.1 21 a1.toNatClampNeg) then gd (inb ((48 * a1) + x6.1) 192) ((f_X12_more a2 x6.1 (x6.2.1 22 ((48 * a1) + x6.1).toNatClampNeg) a3 x6.2).bind (fun p7 => (if 0 < p7.1 then r5 (x6.1 + 1, p7.2) else some (x6.1, p7.2)))) else some (x6.1, x6.2)))
noncomputable def f_X12_read (a1 : Int32) (a2 : Int32) (a3 : Int32) (s : St) : Option (Int32 × St) :=
  (f_X12_isSheet a1 s).bind (fun v1 => (if v1 = true then (f_X12_isPupil a2 s).bind (fun v2 => (if v2 = true then (f_X12_lastTime s).bind (fun v3 => (f_X12_in a3 v3 999 s).bind (fun v4 => (if v4 = true then gd (inb a1 4) ((if (s.1 19 a1.toNatClampNeg) = 0 then (f_X12_meets 1 s).bind (fun p8 => some (p8.1, p8.2)) else lp (L_X12_read_50 a1 a2 a3) NN (0, s))) else some ((-2), s)))) else some ((-2), s))) else some ((-2), s)))
noncomputable def L_X12_lays_63  (r6 : (Int32 × St) → Option St) (x7 : Int32 × St) : Option St :=
  (if x7.1 < (x7.2.1 0 8) then gd (inb x7.1 150) (gd (inb 0 3) ((if (x7.2.1 3 (0 : Int32).toNatClampNeg) < (x7.2.1 9 x7.1.toNatClampNeg) then some x7.2 else gd (inb x7.1 150) (bv (x7.2.1 6 x7.1.toNatClampNeg) (fun v8 => gd (inb x7.1 150) (bv (x7.2.1 7 x7.1.toNatClampNeg) (fun v9 => bv ((12 * v8) + v9) (fun v10 => gd (inb v10 120) (bv (x7.2.1 10 v10.toNatClampNeg) (fun v11 => gd (inb x7.1 150) (bv (x7.2.1 8 x7.1.toNatClampNeg) (fun v12 => jn (fun (y14 : St) => gd (inb v10 120) (bd (wI y14 10 v10.toNatClampNeg v12) (fun s15 => r6 (x7.1 + 1, s15)))) (fun K13 => (if v11 = 0 then K13 x7.2 else (if v11 = v12 then K13 x7.2 else (if v9 < (x7.2.1 0 0) then gd (inb v8 10) (gd (inb v8 10) (bd (wI x7.2 11 v8.toNatClampNeg ((x7.2.1 11 v8.toNatClampNeg) + 1)) (fun s16 => gd (inb v8 10) (gd (inb v9 12) (jn (fun (y18 : Bool) => gd (inb v8 10) (bd (wI s16 12 v8.toNatClampNeg ((s16.1 12 v8.toNatClampNeg) + (bI y18))) (fun s19 => gd (inb v8 10) (gd (inb v9 12) (jn (fun (y21 : Bool) => gd (inb v8 10) (bd (wI s19 13 v8.toNatClampNeg ((s19.1 13 v8.toNatClampNeg) + (bI y21))) (fun s22 => K13 s22))) (fun K20 => (if (s19.1 2 v9.toNatClampNeg) = 0 then K20 false else gd (inb v9 12) ((if v11 = (s19.1 2 v9.toNatClampNeg) then (if v12 = 0 then K20 false else K20 true) else K20 false))))))))) (fun K17 => (if (s16.1 2 v9.toNatClampNeg) = 0 then K17 false else gd (inb v9 12) ((if v11 = (s16.1 2 v9.toNatClampNeg) then K17 false else gd (inb v9 12) ((if v12 = (s16.1 2 v9.toNatClampNeg) then K17 true else K17 false))))))))))) else K13 x7.2)))))))))))))))) else some x7.2)
noncomputable def L_X12_lays_28 (K4 : St → Option St) (r23 : (Int32 × St) → Option St) (x24 : Int32 × St) : Option St :=
  (if x24.1 < 10 then gd (inb x24.1 10) (bd (wI x24.2 11 x24.1.toNatClampNeg 0) (fun s25 => gd (inb x24.1 10) (bd (wI s25 12 x24.1.toNatClampNeg 0) (fun s26 => gd (inb x24.1 10) (bd (wI s26 13 x24.1.toNatClampNeg 0) (fun s27 => r23 (x24.1 + 1, s27))))))) else K4 x24.2)
noncomputable def L_X12_lays_7 (K2 : St → Option St) (r28 : (Int32 × St) → Option St) (x29 : Int32 × St) : Option St :=
  (if x29.1 < 120 then gd (inb x29.1 120) (bd (wI x29.2 10 x29.1.toNatClampNeg 0) (fun s30 => r28 (x29.1 + 1, s30))) else K2 x29.2)
noncomputable def f_X12_lays  (s : St) : Option St :=
  (f_X12_keyNow s).bind (fun p1 => jn (fun (y3 : St) => jn (fun (y5 : St) => lp (L_X12_lays_63) NN (0, y5)) (fun K4 => lp (L_X12_lays_28 K4) NN (0, y3))) (fun K2 => lp (L_X12_lays_7 K2) NN (0, p1.2)))
noncomputable def f_X12_isRight (a1 : Int32) (a2 : Int32) (s : St) : Option Bool :=
  gd (inb a2 12) ((if (s.1 2 a2.toNatClampNeg) = 0 then some false else gd (inb ((12 * a1) + a2) 120) (gd (inb a2 12) ((if (s.1 10 ((12 * a1) + a2).toNatClampNeg) = (s.1 2 a2.toNatClampNeg) then some true else some false)))))
noncomputable def f_X12_isWrong (a1 : Int32) (a2 : Int32) (s : St) : Option Bool :=
  gd (inb a2 12) ((if (s.1 2 a2.toNatClampNeg) = 0 then some false else gd (inb ((12 * a1) + a2) 120) ((if (s.1 10 ((12 * a1) + a2).toNatClampNeg) = 0 then some false else gd (inb ((12 * a1) + a2) 120) (gd (inb a2 12) ((if (s.1 10 ((12 * a1) + a2).toNatClampNeg) = (s.1 2 a2.toNatClampNeg) then some false else some true)))))))
noncomputable def f_X12_said (a1 : Int32) (a2 : Int32) (s : St) : Option (Int32 × St) :=
  (f_X12_isPupil a1 s).bind (fun v1 => (if v1 = true then (f_X12_isQuestion a2 s).bind (fun v2 => (if v2 = true then (f_X12_lays s).bind (fun s3 => gd (inb ((12 * a1) + a2) 120) (some (s3.1 10 ((12 * a1) + a2).toNatClampNeg, s3))) else some ((-2), s))) else some ((-2), s)))
noncomputable def f_X12_areTwo (a1 : Int32) (a2 : Int32) (s : St) : Option Bool :=
  (f_X12_isPupil a1 s).bind (fun v1 => (if v1 = true then (f_X12_isPupil a2 s).bind (fun v2 => (if v2 = true then (if a1 = a2 then some false else some true) else some false)) else some false))
noncomputable def f_X12_amount (a0 : Int32) (s : St) : Option Int32 :=
  (if a0 < 0 then some (0 - a0) else some a0)
noncomputable def f_X12_areBeside (a1 : Int32) (a2 : Int32) (s : St) : Option Bool :=
  gd (inb a1 10) (gd (inb a2 10) ((f_X12_amount ((s.1 4 a1.toNatClampNeg) - (s.1 4 a2.toNatClampNeg)) s).bind (fun v1 => (if v1 < 2 then gd (inb a1 10) (gd (inb a2 10) ((f_X12_amount ((s.1 5 a1.toNatClampNeg) - (s.1 5 a2.toNatClampNeg)) s).bind (fun v2 => (if v2 < 2 then some true else some false)))) else some false))))
noncomputable def f_X12_beside (a1 : Int32) (a2 : Int32) (s : St) : Option Int32 :=
  (f_X12_areTwo a1 a2 s).bind (fun v1 => (if v1 = true then (f_X12_areBeside a1 a2 s).bind (fun v2 => (if v2 = true then some 1 else some 0)) else some (-2)))
noncomputable def L_X12_markBut_5 (a1 : Int32) (a2 : Int32) (s : St) (r1 : (Int32 × Int32) → Option Int32) (x2 : Int32 × Int32) : Option Int32 :=
  (if x2.1 < (s.1 0 0) then (if x2.1 = a2 then bv (x2.2 + 0) (fun v3 => r1 (x2.1 + 1, v3)) else (f_X12_isRight a1 x2.1 s).bind (fun v4 => (if v4 = true then bv (x2.2 + 1) (fun v6 => r1 (x2.1 + 1, v6)) else bv (x2.2 + 0) (fun v5 => r1 (x2.1 + 1, v5))))) else some x2.2)
noncomputable def f_X12_markBut (a1 : Int32) (a2 : Int32) (s : St) : Option Int32 :=
  lp (L_X12_markBut_5 a1 a2 s) NN (0, 0)
noncomputable def L_X12_rankBut_5 (a1 : Int32) (a2 : Int32) (s : St) (r1 : (Int32 × Int32) → Option Int32) (x2 : Int32 × Int32) : Option Int32 :=
  (if x2.1 < (s.1 0 5) then (f_X12_markBut x2.1 a2 s).bind (fun v3 => (f_X12_markBut a1 a2 s).bind (fun v4 => (if v4 < v3 then bv (x2.2 + 1) (fun v6 => r1 (x2.1 + 1, v6)) else bv (x2.2 + 0) (fun v5 => r1 (x2.1 + 1, v5))))) else some x2.2)
noncomputable def f_X12_rankBut (a1 : Int32) (a2 : Int32) (s : St) : Option Int32 :=
  lp (L_X12_rankBut_5 a1 a2 s) NN (0, 1)
noncomputable def L_X12_openBut_4 (a1 : Int32) (s : St) (r1 : (Int32 × Int32) → Option Int32) (x2 : Int32 × Int32) : Option Int32 :=
  (if x2.1 < (s.1 0 0) then (if x2.1 = a1 then bv (x2.2 + 0) (fun v3 => r1 (x2.1 + 1, v3)) else gd (inb x2.1 12) ((if (s.1 2 x2.1.toNatClampNeg) = 0 then bv (x2.2 + 0) (fun v4 => r1 (x2.1 + 1, v4)) else bv (x2.2 + 1) (fun v5 => r1 (x2.1 + 1, v5))))) else some x2.2)
noncomputable def f_X12_openBut (a1 : Int32) (s : St) : Option Int32 :=
  lp (L_X12_openBut_4 a1 s) NN (0, 0)
noncomputable def f_X12_passesBut (a1 : Int32) (a2 : Int32) (s : St) : Option Bool :=
  (f_X12_markBut a1 a2 s).bind (fun v1 => gd (inb 1 3) ((f_X12_openBut a2 s).bind (fun v2 => (if (v1 * 100) < ((s.1 3 (1 : Int32).toNatClampNeg) * v2) then some false else some true))))
noncomputable def L_X12_wrongs_4 (a1 : Int32) (s : St) (r1 : (Int32 × Int32) → Option Int32) (x2 : Int32 × Int32) : Option Int32 :=
  (if x2.1 < (s.1 0 0) then (f_X12_isWrong a1 x2.1 s).bind (fun v3 => (if v3 = true then bv (x2.2 + 1) (fun v5 => r1 (x2.1 + 1, v5)) else bv (x2.2 + 0) (fun v4 => r1 (x2.1 + 1, v4)))) else some x2.2)
noncomputable def f_X12_wrongs (a1 : Int32) (s : St) : Option Int32 :=
  lp (L_X12_wrongs_4 a1 s) NN (0, 0)
noncomputable def f_X12_markOf (a1 : Int32) (a2 : Int32) (s : St) : Option Int32 :=
  (if a2 = 0 then (f_X12_markBut a1 (-1) s).bind (fun v4 => some v4) else (if a2 = 1 then (f_X12_rankBut a1 (-1) s).bind (fun v3 => some v3) else (if a2 = 2 then (f_X12_passesBut a1 (-1) s).bind (fun v2 => (if v2 = true then some 1 else some 0)) else (f_X12_wrongs a1 s).bind (fun v1 => some v1))))
noncomputable def f_X12_mark (a1 : Int32) (a2 : Int32) (s : St) : Option (Int32 × St) :=
  (f_X12_isPupil a1 s).bind (fun v1 => (if v1 = true then (f_X12_in a2 0 3 s).bind (fun v2 => (if v2 = true then (f_X12_lays s).bind (fun s3 => (f_X12_markOf a1 a2 s3).bind (fun v4 => some (v4, s3))) else some ((-2), s))) else some ((-2), s)))
noncomputable def L_X12_sharedOf_5 (a1 : Int32) (a2 : Int32) (s : St) (r1 : (Int32 × Int32) → Option Int32) (x2 : Int32 × Int32) : Option Int32 :=
  (if x2.1 < (s.1 0 0) then (f_X12_isWrong a1 x2.1 s).bind (fun v3 => (if v3 = true then gd (inb ((12 * a1) + x2.1) 120) (gd (inb ((12 * a2) + x2.1) 120) ((if (s.1 10 ((12 * a1) + x2.1).toNatClampNeg) = (s.1 10 ((12 * a2) + x2.1).toNatClampNeg) then bv (x2.2 + 1) (fun v6 => r1 (x2.1 + 1, v6)) else bv (x2.2 + 0) (fun v5 => r1 (x2.1 + 1, v5))))) else bv (x2.2 + 0) (fun v4 => r1 (x2.1 + 1, v4)))) else some x2.2)
noncomputable def f_X12_sharedOf (a1 : Int32) (a2 : Int32) (s : St) : Option Int32 :=
  lp (L_X12_sharedOf_5 a1 a2 s) NN (0, 0)
noncomputable def L_X12_bothOf_5 (a1 : Int32) (a2 : Int32) (s : St) (r1 : (Int32 × Int32) → Option Int32) (x2 : Int32 × Int32) : Option Int32 :=
  (if x2.1 < (s.1 0 0) then (f_X12_isWrong a1 x2.1 s).bind (fun v3 => (if v3 = true then (f_X12_isWrong a2 x2.1 s).bind (fun v5 => (if v5 = true then bv (x2.2 + 1) (fun v7 => r1 (x2.1 + 1, v7)) else bv (x2.2 + 0) (fun v6 => r1 (x2.1 + 1, v6)))) else bv (x2.2 + 0) (fun v4 => r1 (x2.1 + 1, v4)))) else some x2.2)
noncomputable def f_X12_bothOf (a1 : Int32) (a2 : Int32) (s : St) : Option Int32 :=
  lp (L_X12_bothOf_5 a1 a2 s) NN (0, 0)
noncomputable def L_X12_laysChance_300  (r9 : (Int32 × St) → Option (Bool × St)) (x10 : Int32 × St) : Option (Bool × St) :=
  (if x10.1 < 9 then gd (inb x10.1 9) (bd (wL x10.2 0 18 ((x10.2.2 0 18) + (x10.2.2 14 x10.1.toNatClampNeg))) (fun s11 => r9 (x10.1 + 1, s11))) else some (true, x10.2))
noncomputable def L_X12_laysChance_212 (y17 : Int64 × Int64) (K18 : St → Option (Bool × St)) (r21 : (Int32 × St) → Option (Bool × St)) (x22 : Int32 × St) : Option (Bool × St) :=
  (if x22.1 < 0 then K18 x22.2 else gd (inb x22.1 9) (jn (fun (y24 : Int64) => gd (inb x22.1 9) (bd (wL x22.2 14 x22.1.toNatClampNeg (((x22.2.2 14 x22.1.toNatClampNeg) * ((y17.2 * y17.2) - y17.1)) + y24)) (fun s25 => r21 (x22.1 + (-1), s25)))) (fun K23 => (if 0 < x22.1 then gd (inb (x22.1 - 1) 9) (K23 ((x22.2.2 14 (x22.1 - 1).toNatClampNeg) * y17.1)) else K23 0))))
noncomputable def L_X12_laysChance_99 (a1 : Int32) (a2 : Int32) (x13 : Int32 × St) (x27 : Int32 × Int64 × Int64) (K28 : Int64 → Option (Bool × St)) (r35 : (Int32 × Int64) → Option (Bool × St)) (x36 : Int32 × Int64) : Option (Bool × St) :=
  (if x36.1 < (x13.2.1 0 5) then (if x36.1 = a1 then bl (x36.2 + 0) (fun v37 => r35 (x36.1 + 1, v37)) else (if x36.1 = a2 then bl (x36.2 + 0) (fun v38 => r35 (x36.1 + 1, v38)) else gd (inb ((12 * x36.1) + x13.1) 120) ((if (x13.2.1 10 ((12 * x36.1) + x13.1).toNatClampNeg) = x27.1 then bl (x36.2 + 1) (fun v40 => r35 (x36.1 + 1, v40)) else bl (x36.2 + 0) (fun v39 => r35 (x36.1 + 1, v39)))))) else K28 x36.2)
noncomputable def L_X12_laysChance_86 (a1 : Int32) (a2 : Int32) (x13 : Int32 × St) (K16 : (Int64 × Int64) → Option (Bool × St)) (r26 : (Int32 × Int64 × Int64) → Option (Bool × St)) (x27 : Int32 × Int64 × Int64) : Option (Bool × St) :=
  (if x27.1 < 6 then jn (fun (y29 : Int64) => gd (inb x13.1 12) (jn (fun (y31 : Int64) => bl (x27.2.2 + y31) (fun v32 => gd (inb x13.1 12) ((if x27.1 = (x13.2.1 2 x13.1.toNatClampNeg) then bl (x27.2.1 + 0) (fun v34 => r26 (x27.1 + 1, v34, v32)) else bl (x27.2.1 + (y29 * y29)) (fun v33 => r26 (x27.1 + 1, v33, v32)))))) (fun K30 => (if x27.1 = (x13.2.1 2 x13.1.toNatClampNeg) then K30 0 else K30 (y29 - 1))))) (fun K28 => lp (L_X12_laysChance_99 a1 a2 x13 x27 K28) NN (0, 1)) else K16 (x27.2.1, x27.2.2))
noncomputable def L_X12_laysChance_49 (a1 : Int32) (a2 : Int32) (K5 : St → Option (Bool × St)) (r12 : (Int32 × St) → Option (Bool × St)) (x13 : Int32 × St) : Option (Bool × St) :=
  (if x13.1 < (x13.2.1 0 0) then (f_X12_isWrong a1 x13.1 x13.2).bind (fun v14 => (if v14 = true then (f_X12_isWrong a2 x13.1 x13.2).bind (fun v15 => (if v15 = true then jn (fun (y17 : Int64 × Int64) => jn (fun (y19 : St) => bd (wL y19 0 19 ((y19.2 0 19) * (y17.2 * y17.2))) (fun s20 => r12 (x13.1 + 1, s20))) (fun K18 => lp (L_X12_laysChance_212 y17 K18) NN (8, x13.2))) (fun K16 => lp (L_X12_laysChance_86 a1 a2 x13 K16) NN (1, 0, 4)) else r12 (x13.1 + 1, x13.2))) else r12 (x13.1 + 1, x13.2))) else K5 x13.2)
noncomputable def L_X12_laysChance_15 (K2 : St → Option (Bool × St)) (r41 : (Int32 × St) → Option (Bool × St)) (x42 : Int32 × St) : Option (Bool × St) :=
  (if x42.1 < 9 then jn (fun (y44 : Int64) => gd (inb x42.1 9) (bd (wL x42.2 14 x42.1.toNatClampNeg y44) (fun s45 => r41 (x42.1 + 1, s45)))) (fun K43 => (if x42.1 = 0 then K43 1 else K43 0)) else K2 x42.2)
noncomputable def f_X12_laysChance (a1 : Int32) (a2 : Int32) (s : St) : Option (Bool × St) :=
  (f_X12_bothOf a1 a2 s).bind (fun v1 => (if 7 < v1 then some (false, s) else jn (fun (y3 : St) => bd (wL y3 0 19 1) (fun s4 => jn (fun (y6 : St) => bd (wL y6 0 18 0) (fun s7 => (f_X12_sharedOf a1 a2 s7).bind (fun v8 => lp (L_X12_laysChance_300) NN (v8, s7)))) (fun K5 => lp (L_X12_laysChance_49 a1 a2 K5) NN (0, s4)))) (fun K2 => lp (L_X12_laysChance_15 K2) NN (0, s))))
noncomputable def f_X12_areOdd (a1 : Int32) (a2 : Int32) (s : St) : Option (Bool × St) :=
  (f_X12_sharedOf a1 a2 s).bind (fun v1 => (if 0 < v1 then (f_X12_laysChance a1 a2 s).bind (fun p2 => (if p2.1 = true then gd (inb 2 3) ((if (((p2.2.1 3 (2 : Int32).toNatClampNeg).toInt64) * (p2.2.2 0 19)) < (1000 * (p2.2.2 0 18)) then some (false, p2.2) else some (true, p2.2))) else some (false, p2.2))) else some (false, s)))
noncomputable def f_X12_shared (a1 : Int32) (a2 : Int32) (a3 : Int32) (s : St) : Option (Int32 × St) :=
  (f_X12_areTwo a1 a2 s).bind (fun v1 => (if v1 = true then (f_X12_in a3 0 2 s).bind (fun v2 => (if v2 = true then (f_X12_lays s).bind (fun s3 => (if a3 = 0 then (f_X12_sharedOf a1 a2 s3).bind (fun v6 => some (v6, s3)) else (if a3 = 1 then (f_X12_bothOf a1 a2 s3).bind (fun v5 => some (v5, s3)) else (f_X12_areOdd a1 a2 s3).bind (fun p4 => (if p4.1 = true then some (1, p4.2) else some (0, p4.2)))))) else some ((-2), s))) else some ((-2), s)))
noncomputable def f_X12_chance (a1 : Int32) (a2 : Int32) (a3 : Int32) (s : St) : Option (Int64 × St) :=
  (f_X12_areTwo a1 a2 s).bind (fun v1 => jn (fun (y3 : Unit) => (f_X12_no (-2) s).bind (fun v4 => some (v4, s))) (fun K2 => (if v1 = true then (f_X12_in a3 0 1 s).bind (fun v5 => (if v5 = true then (f_X12_lays s).bind (fun s6 => (f_X12_laysChance a1 a2 s6).bind (fun p7 => (if p7.1 = true then (f_X12_lowest (p7.2.2 0 18) (p7.2.2 0 19) a3 p7.2).bind (fun v9 => some (v9, p7.2)) else (f_X12_no (-4) p7.2).bind (fun v8 => some (v8, p7.2))))) else K2 ())) else K2 ())))
noncomputable def L_X12_besideNow_14 (s : St) (r1 : (Int32 × Int32) → Option Int32) (x2 : Int32 × Int32) (r3 : (Int32 × Int32) → Option Int32) (x4 : Int32 × Int32) : Option Int32 :=
  (if x4.1 < x2.1 then (f_X12_areBeside x2.1 x4.1 s).bind (fun v5 => (if v5 = true then gd (inb x2.1 10) (gd (inb x4.1 10) (gd (inb ((10 * (s.1 15 x2.1.toNatClampNeg)) + (s.1 15 x4.1.toNatClampNeg)) 100) (bv (x4.2 + (s.1 16 ((10 * (s.1 15 x2.1.toNatClampNeg)) + (s.1 15 x4.1.toNatClampNeg)).toNatClampNeg)) (fun v7 => r3 (x4.1 + 1, v7))))) else bv (x4.2 + 0) (fun v6 => r3 (x4.1 + 1, v6)))) else r1 (x2.1 + 1, x4.2))
noncomputable def L_X12_besideNow_4 (s : St) (r1 : (Int32 × Int32) → Option Int32) (x2 : Int32 × Int32) : Option Int32 :=
  (if x2.1 < (s.1 0 5) then lp (L_X12_besideNow_14 s r1 x2) NN (0, x2.2) else some x2.2)
noncomputable def f_X12_besideNow  (s : St) : Option Int32 :=
  lp (L_X12_besideNow_4 s) NN (0, 0)
noncomputable def L_X12_turns_107  (r12 : (Int32 × Int32 × St) → Option (Bool × St)) (x13 : Int32 × Int32 × St) : Option (Bool × St) :=
  (if x13.2.1 < x13.1 then gd (inb x13.2.1 10) (bv (x13.2.2.1 15 x13.2.1.toNatClampNeg) (fun v14 => gd (inb x13.1 10) (gd (inb x13.2.1 10) (bd (wI x13.2.2 15 x13.2.1.toNatClampNeg (x13.2.2.1 15 x13.1.toNatClampNeg)) (fun s15 => gd (inb x13.1 10) (bd (wI s15 15 x13.1.toNatClampNeg v14) (fun s16 => r12 (x13.1 + (-1), x13.2.1 + 1, s16)))))))) else some (true, x13.2.2))
noncomputable def L_X12_turns_47 (s : St) (y3 : Int32) (K5 : Int32 → Option (Bool × St)) (r17 : Int32 → Option (Bool × St)) (x18 : Int32) : Option (Bool × St) :=
  gd (inb x18 10) (gd (inb y3 10) ((if (s.1 15 x18.toNatClampNeg) < (s.1 15 y3.toNatClampNeg) then r17 (x18 + (-1)) else K5 x18)))
noncomputable def L_X12_turns_7 (s : St) (K2 : Int32 → Option (Bool × St)) (r19 : Int32 → Option (Bool × St)) (x20 : Int32) : Option (Bool × St) :=
  (if x20 < 0 then K2 x20 else gd (inb x20 10) (gd (inb (x20 + 1) 10) ((if (s.1 15 (x20 + 1).toNatClampNeg) < (s.1 15 x20.toNatClampNeg) then r19 (x20 + (-1)) else K2 x20))))
noncomputable def f_X12_turns  (s : St) : Option (Bool × St) :=
  bv ((s.1 0 5) - 2) (fun v1 => jn (fun (y3 : Int32) => (if y3 < 0 then some (false, s) else bv ((s.1 0 5) - 1) (fun v4 => jn (fun (y6 : Int32) => gd (inb y3 10) (bv (s.1 15 y3.toNatClampNeg) (fun v7 => gd (inb y6 10) (gd (inb y3 10) (bd (wI s 15 y3.toNatClampNeg (s.1 15 y6.toNatClampNeg)) (fun s8 => gd (inb y6 10) (bd (wI s8 15 y6.toNatClampNeg v7) (fun s9 => bv (y3 + 1) (fun v10 => bv ((s9.1 0 5) - 1) (fun v11 => lp (L_X12_turns_107) NN (v11, v10, s9))))))))))) (fun K5 => lp (L_X12_turns_47 s y3 K5) NN v4)))) (fun K2 => lp (L_X12_turns_7 s K2) NN v1))
noncomputable def L_X12_seatsNow_96 (v3 : Int32) (K4 : (Int64 × Int64 × St) → Option (Int32 × St)) (r6 : (Int32 × Int64 × Int64 × St) → Option (Int32 × St)) (x7 : Int32 × Int64 × Int64 × St) : Option (Int32 × St) :=
  (if x7.1 = 0 then K4 (x7.2.1, x7.2.2.1, x7.2.2.2) else bl (x7.2.2.1 + 1) (fun v8 => (f_X12_besideNow x7.2.2.2).bind (fun v9 => jn (fun (y11 : Int64) => bl (x7.2.1 + y11) (fun v12 => (f_X12_turns x7.2.2.2).bind (fun p13 => r6 ((bI p13.1), v12, v8, p13.2)))) (fun K10 => (if v9 < v3 then K10 0 else K10 1)))))
noncomputable def L_X12_seatsNow_19 (r14 : (Int32 × St) → Option (Int32 × St)) (x15 : Int32 × St) (r17 : (Int32 × St) → Option (Int32 × St)) (x18 : Int32 × St) : Option (Int32 × St) :=
  (if x18.1 < (x18.2.1 0 5) then jn (fun (y20 : Int32) => gd (inb ((10 * x15.1) + x18.1) 100) (bd (wI x18.2 16 ((10 * x15.1) + x18.1).toNatClampNeg y20) (fun s21 => r17 (x18.1 + 1, s21)))) (fun K19 => (if x15.1 = x18.1 then K19 0 else (f_X12_sharedOf x15.1 x18.1 x18.2).bind (fun v22 => K19 v22))) else r14 (x15.1 + 1, x18.2))
noncomputable def L_X12_seatsNow_2 (K1 : St → Option (Int32 × St)) (r14 : (Int32 × St) → Option (Int32 × St)) (x15 : Int32 × St) : Option (Int32 × St) :=
  (if x15.1 < (x15.2.1 0 5) then gd (inb x15.1 10) (bd (wI x15.2 15 x15.1.toNatClampNeg x15.1) (fun s16 => lp (L_X12_seatsNow_19 r14 x15) NN (0, s16))) else K1 x15.2)
noncomputable def f_X12_seatsNow (a1 : Int32) (s : St) : Option (Int32 × St) :=
  jn (fun (y2 : St) => (f_X12_besideNow y2).bind (fun v3 => (if a1 = 0 then some (v3, y2) else (if 7 < (y2.1 0 5) then some ((-4), y2) else jn (fun (y5 : Int64 × Int64 × St) => gd (y5.2.1 != (0 : Int64)) (some (((1000000 * y5.1) / y5.2.1).toInt32, y5.2.2))) (fun K4 => lp (L_X12_seatsNow_96 v3 K4) NN (1, 0, 0, y2)))))) (fun K1 => lp (L_X12_seatsNow_2 K1) NN (0, s))
noncomputable def f_X12_seats (a1 : Int32) (s : St) : Option (Int32 × St) :=
  (f_X12_in a1 0 1 s).bind (fun v1 => (if v1 = true then (f_X12_lays s).bind (fun s2 => (f_X12_seatsNow a1 s2).bind (fun p3 => some (p3.1, p3.2))) else some ((-2), s)))
noncomputable def L_X12_laysPairs_12 (r1 : (Int32 × St) → Option St) (x2 : Int32 × St) (r3 : (Int32 × St) → Option St) (x4 : Int32 × St) : Option St :=
  (if x4.1 < x2.1 then (f_X12_areBeside x2.1 x4.1 x4.2).bind (fun v5 => jn (fun (y7 : Bool × St) => gd (inb ((10 * x2.1) + x4.1) 100) (bd (wI y7.2 17 ((10 * x2.1) + x4.1).toNatClampNeg (bI y7.1)) (fun s8 => r3 (x4.1 + 1, s8)))) (fun K6 => (if v5 = true then (f_X12_areOdd x2.1 x4.1 x4.2).bind (fun p9 => (if p9.1 = true then K6 (true, p9.2) else K6 (false, p9.2))) else K6 (false, x4.2)))) else r1 (x2.1 + 1, x4.2))
noncomputable def L_X12_laysPairs_2  (r1 : (Int32 × St) → Option St) (x2 : Int32 × St) : Option St :=
  (if x2.1 < (x2.2.1 0 5) then lp (L_X12_laysPairs_12 r1 x2) NN (0, x2.2) else some x2.2)
noncomputable def f_X12_laysPairs  (s : St) : Option St :=
  lp (L_X12_laysPairs_2) NN (0, s)
noncomputable def f_X12_isPair (a1 : Int32) (a2 : Int32) (s : St) : Option Bool :=
  (if a2 < a1 then gd (inb ((10 * a1) + a2) 100) ((if (s.1 17 ((10 * a1) + a2).toNatClampNeg) = 1 then some true else some false)) else (if a1 < a2 then gd (inb ((10 * a2) + a1) 100) ((if (s.1 17 ((10 * a2) + a1).toNatClampNeg) = 1 then some true else some false)) else some false))
noncomputable def L_X12_sourcesNow_59 (s1 : St) (x3 : Int32 × Int32) (r8 : (Int32 × Int32) → Option (Int32 × St)) (x9 : Int32 × Int32) (r10 : (Int32 × Int32) → Option (Int32 × St)) (x11 : Int32 × Int32) : Option (Int32 × St) :=
  (if x11.1 < x9.1 then (if x11.2 = 0 then r10 (x11.1 + 1, 0) else (f_X12_isPair x9.1 x11.1 s1).bind (fun v12 => (if v12 = true then (f_X12_isIn x3.1 x9.1 s1).bind (fun v13 => (if v13 = true then r10 (x11.1 + 1, 1) else (f_X12_isIn x3.1 x11.1 s1).bind (fun v14 => (if v14 = true then r10 (x11.1 + 1, 1) else r10 (x11.1 + 1, 0))))) else r10 (x11.1 + 1, 1)))) else r8 (x9.1 + 1, x11.2))
noncomputable def L_X12_sourcesNow_43 (s1 : St) (x3 : Int32 × Int32) (K6 : Int32 → Option (Int32 × St)) (r8 : (Int32 × Int32) → Option (Int32 × St)) (x9 : Int32 × Int32) : Option (Int32 × St) :=
  (if x9.1 < (s1.1 0 5) then (if x9.2 = 0 then K6 x9.2 else lp (L_X12_sourcesNow_59 s1 x3 r8 x9) NN (0, x9.2)) else K6 x9.2)
noncomputable def L_X12_sourcesNow_8 (s1 : St) (r2 : (Int32 × Int32) → Option (Int32 × St)) (x3 : Int32 × Int32) : Option (Int32 × St) :=
  (if x3.1 < (1 <<< ((s1.1 0 5) &&& 31)) then jn (fun (y5 : Bool) => jn (fun (y7 : Int32) => (if y7 = 0 then r2 (x3.1 + 1, x3.2) else r2 (x3.1 + 1, x3.1))) (fun K6 => lp (L_X12_sourcesNow_43 s1 x3 K6) NN (0, (bI y5)))) (fun K4 => (if x3.2 = (-1) then K4 true else (f_X12_ones x3.1 s1).bind (fun v15 => (f_X12_ones x3.2 s1).bind (fun v16 => (if v15 < v16 then K4 true else K4 false))))) else some (x3.2, s1))
noncomputable def f_X12_sourcesNow  (s : St) : Option (Int32 × St) :=
  (f_X12_laysPairs s).bind (fun s1 => lp (L_X12_sourcesNow_8 s1) NN (0, (-1)))
noncomputable def f_X12_sources  (s : St) : Option (Int32 × St) :=
  (f_X12_lays s).bind (fun s1 => (f_X12_sourcesNow s1).bind (fun p2 => some (p2.1, p2.2)))
noncomputable def f_X12_gave (a1 : Int32) (a2 : Int32) (s : St) : Option Int32 :=
  (f_X12_markBut a1 (-1) s).bind (fun v1 => (f_X12_markBut a2 (-1) s).bind (fun v2 => (if v2 < v1 then some a1 else (if v1 < v2 then some a2 else gd (inb a1 10) (gd (inb a2 10) ((if (s.1 11 a1.toNatClampNeg) < (s.1 11 a2.toNatClampNeg) then some a1 else gd (inb a2 10) (gd (inb a1 10) ((if (s.1 11 a2.toNatClampNeg) < (s.1 11 a1.toNatClampNeg) then some a2 else some (-1)))))))))))
noncomputable def f_X12_from (a1 : Int32) (a2 : Int32) (s : St) : Option (Int32 × St) :=
  (f_X12_areTwo a1 a2 s).bind (fun v1 => (if v1 = true then (f_X12_lays s).bind (fun s2 => (f_X12_areBeside a1 a2 s2).bind (fun v3 => (if v3 = true then (f_X12_areOdd a1 a2 s2).bind (fun p4 => (if p4.1 = true then (f_X12_gave a1 a2 p4.2).bind (fun v5 => some (v5, p4.2)) else some ((-3), p4.2))) else some ((-3), s2)))) else some ((-2), s)))
noncomputable def L_X12_chainNow_54 (r6 : (Int32 × Int32 × St) → Option (Int32 × St)) (x7 : Int32 × Int32 × St) (r8 : (Int32 × Int32 × St) → Option (Int32 × St)) (x9 : Int32 × Int32 × St) : Option (Int32 × St) :=
  (if x9.1 < (x9.2.2.1 0 5) then (f_X12_isPair x7.1 x9.1 x9.2.2).bind (fun v10 => (if v10 = true then (f_X12_gave x7.1 x9.1 x9.2.2).bind (fun v11 => (if v11 = x7.1 then gd (inb x7.1 10) (gd (inb x9.1 10) ((if (x9.2.2.1 18 x9.1.toNatClampNeg) < ((x9.2.2.1 18 x7.1.toNatClampNeg) + 1) then gd (inb x7.1 10) (gd (inb x9.1 10) (bd (wI x9.2.2 18 x9.1.toNatClampNeg ((x9.2.2.1 18 x7.1.toNatClampNeg) + 1)) (fun s12 => gd (inb x9.1 10) ((if x9.2.1 < (s12.1 18 x9.1.toNatClampNeg) then gd (inb x9.1 10) (bv (s12.1 18 x9.1.toNatClampNeg) (fun v13 => r8 (x9.1 + 1, v13, s12))) else r8 (x9.1 + 1, x9.2.1, s12)))))) else r8 (x9.1 + 1, x9.2.1, x9.2.2)))) else r8 (x9.1 + 1, x9.2.1, x9.2.2))) else r8 (x9.1 + 1, x9.2.1, x9.2.2))) else r6 (x7.1 + 1, x9.2.1, x9.2.2))
noncomputable def L_X12_chainNow_43 (r4 : (Int32 × Int32 × St) → Option (Int32 × St)) (x5 : Int32 × Int32 × St) (r6 : (Int32 × Int32 × St) → Option (Int32 × St)) (x7 : Int32 × Int32 × St) : Option (Int32 × St) :=
  (if x7.1 < (x7.2.2.1 0 5) then lp (L_X12_chainNow_54 r6 x7) NN (0, x7.2.1, x7.2.2) else r4 (x5.1 + 1, x7.2.1, x7.2.2))
noncomputable def L_X12_chainNow_33  (r4 : (Int32 × Int32 × St) → Option (Int32 × St)) (x5 : Int32 × Int32 × St) : Option (Int32 × St) :=
  (if x5.1 < (x5.2.2.1 0 5) then lp (L_X12_chainNow_43 r4 x5) NN (0, x5.2.1, x5.2.2) else some (x5.2.1, x5.2.2))
noncomputable def L_X12_chainNow_8 (K2 : (Int32 × St) → Option (Int32 × St)) (r14 : (Int32 × Int32 × St) → Option (Int32 × St)) (x15 : Int32 × Int32 × St) : Option (Int32 × St) :=
  (if x15.1 < (x15.2.2.1 0 5) then gd (inb x15.1 10) (bd (wI x15.2.2 18 x15.1.toNatClampNeg 1) (fun s16 => r14 (x15.1 + 1, 1, s16))) else K2 (x15.2.1, x15.2.2))
noncomputable def f_X12_chainNow  (s : St) : Option (Int32 × St) :=
  (f_X12_laysPairs s).bind (fun s1 => jn (fun (y3 : Int32 × St) => lp (L_X12_chainNow_33) NN (0, y3.1, y3.2)) (fun K2 => lp (L_X12_chainNow_8 K2) NN (0, 0, s1)))
noncomputable def f_X12_chain  (s : St) : Option (Int32 × St) :=
  (f_X12_lays s).bind (fun s1 => (f_X12_chainNow s1).bind (fun p2 => some (p2.1, p2.2)))
noncomputable def f_X12_rubbedOf (a1 : Int32) (a2 : Int32) (s : St) : Option Int32 :=
  (if a2 = 0 then gd (inb a1 10) (some (s.1 11 a1.toNatClampNeg)) else (if a2 = 1 then gd (inb a1 10) (some (s.1 12 a1.toNatClampNeg)) else gd (inb a1 10) (some (s.1 13 a1.toNatClampNeg))))
noncomputable def f_X12_rubbed (a1 : Int32) (a2 : Int32) (s : St) : Option (Int32 × St) :=
  (f_X12_isPupil a1 s).bind (fun v1 => (if v1 = true then (f_X12_in a2 0 2 s).bind (fun v2 => (if v2 = true then (f_X12_lays s).bind (fun s3 => (f_X12_rubbedOf a1 a2 s3).bind (fun v4 => some (v4, s3))) else some ((-2), s))) else some ((-2), s)))
noncomputable def L_X12_gainsNow_120 (s : St) (y2 : Int32 × Int32 × Int32 × Int32) (K3 : Int64 → Option Int64) (r7 : (Int32 × Int64) → Option Int64) (x8 : Int32 × Int64) : Option Int64 :=
  (if y2.2.1 < x8.1 then K3 x8.2 else (f_X12_choose y2.2.2.1 x8.1 s).bind (fun v9 => (f_X12_choose (y2.2.2.2 - y2.2.2.1) (y2.2.1 - x8.1) s).bind (fun v10 => bl (x8.2 + (v9 * v10)) (fun v11 => r7 (x8.1 + 1, v11)))))
noncomputable def L_X12_gainsNow_14 (a1 : Int32) (s : St) (K1 : (Int32 × Int32 × Int32 × Int32) → Option Int64) (r13 : (Int32 × Int32 × Int32 × Int32 × Int32) → Option Int64) (x14 : Int32 × Int32 × Int32 × Int32 × Int32) : Option Int64 :=
  (if x14.1 < (s.1 0 5) then gd (inb x14.1 10) (bv (x14.2.2.2.2 + (s.1 11 x14.1.toNatClampNeg)) (fun v15 => gd (inb x14.1 10) (bv (x14.2.2.2.1 + (s.1 12 x14.1.toNatClampNeg)) (fun v16 => (f_X12_isIn a1 x14.1 s).bind (fun v17 => jn (fun (y19 : Int32) => bv (x14.2.2.1 + y19) (fun v20 => (f_X12_isIn a1 x14.1 s).bind (fun v21 => (if v21 = true then gd (inb x14.1 10) (bv (x14.2.1 + (s.1 12 x14.1.toNatClampNeg)) (fun v23 => r13 (x14.1 + 1, v23, v20, v16, v15))) else bv (x14.2.1 + 0) (fun v22 => r13 (x14.1 + 1, v22, v20, v16, v15)))))) (fun K18 => (if v17 = true then gd (inb x14.1 10) (K18 (s.1 11 x14.1.toNatClampNeg)) else K18 0))))))) else K1 (x14.2.1, x14.2.2.1, x14.2.2.2.1, x14.2.2.2.2))
noncomputable def f_X12_gainsNow (a1 : Int32) (a2 : Int32) (s : St) : Option Int64 :=
  jn (fun (y2 : Int32 × Int32 × Int32 × Int32) => (if 60 < y2.2.2.2 then (f_X12_no (-4) s).bind (fun v12 => some v12) else jn (fun (y4 : Int64) => (f_X12_choose y2.2.2.2 y2.2.1 s).bind (fun v5 => (f_X12_lowest y4 v5 a2 s).bind (fun v6 => some v6))) (fun K3 => lp (L_X12_gainsNow_120 s y2 K3) NN (y2.1, 0)))) (fun K1 => lp (L_X12_gainsNow_14 a1 s K1) NN (0, 0, 0, 0, 0))
noncomputable def f_X12_gains (a1 : Int32) (a2 : Int32) (s : St) : Option (Int64 × St) :=
  (f_X12_in a1 0 1023 s).bind (fun v1 => jn (fun (y3 : Unit) => (f_X12_no (-2) s).bind (fun v4 => some (v4, s))) (fun K2 => (if v1 = true then (f_X12_in a2 0 1 s).bind (fun v5 => (if v5 = true then (f_X12_lays s).bind (fun s6 => (f_X12_gainsNow a1 a2 s6).bind (fun v7 => some (v7, s6))) else K2 ())) else K2 ())))
noncomputable def L_X12_countOf_6 (a1 : Int32) (a2 : Bool) (a3 : Int32) (s : St) (r1 : (Int32 × Int32) → Option Int32) (x2 : Int32 × Int32) : Option Int32 :=
  (if x2.1 < (s.1 0 5) then (f_X12_isIn a1 x2.1 s).bind (fun v3 => (if (bI v3) = (bI a2) then (if a3 = (-1) then bv (x2.2 + 1) (fun v5 => r1 (x2.1 + 1, v5)) else (f_X12_isRight x2.1 a3 s).bind (fun v6 => (if v6 = true then bv (x2.2 + 1) (fun v8 => r1 (x2.1 + 1, v8)) else bv (x2.2 + 0) (fun v7 => r1 (x2.1 + 1, v7))))) else bv (x2.2 + 0) (fun v4 => r1 (x2.1 + 1, v4)))) else some x2.2)
noncomputable def f_X12_countOf (a1 : Int32) (a2 : Bool) (a3 : Int32) (s : St) : Option Int32 :=
  lp (L_X12_countOf_6 a1 a2 a3 s) NN (0, 0)
noncomputable def L_X12_known_43 (a1 : Int32) (a2 : Int32) (s4 : St) (r5 : (Int32 × Int32) → Option (Int32 × St)) (x6 : Int32 × Int32) : Option (Int32 × St) :=
  (if x6.1 < (s4.1 0 0) then gd (inb x6.1 12) (jn (fun (y8 : Bool) => (if y8 = true then (f_X12_countOf a1 false x6.1 s4).bind (fun v10 => (f_X12_countOf a1 false (-1) s4).bind (fun v11 => (if (a2 * v11) < (100 * v10) then bv (x6.2 ||| 0) (fun v12 => r5 (x6.1 + 1, v12)) else bv (x6.2 ||| (1 <<< (x6.1 &&& 31))) (fun v13 => r5 (x6.1 + 1, v13))))) else bv (x6.2 ||| 0) (fun v9 => r5 (x6.1 + 1, v9)))) (fun K7 => (if (s4.1 2 x6.1.toNatClampNeg) = 0 then K7 false else (f_X12_countOf a1 true x6.1 s4).bind (fun v14 => (f_X12_countOf a1 true (-1) s4).bind (fun v15 => (if v14 = v15 then K7 true else K7 false)))))) else some (x6.2, s4))
noncomputable def f_X12_known (a1 : Int32) (a2 : Int32) (s : St) : Option (Int32 × St) :=
  (f_X12_in a1 1 1023 s).bind (fun v1 => (if v1 = true then (f_X12_countOf a1 true (-1) s).bind (fun v2 => (if v2 = 0 then some ((-2), s) else (f_X12_in a2 0 100 s).bind (fun v3 => (if v3 = true then (f_X12_lays s).bind (fun s4 => lp (L_X12_known_43 a1 a2 s4) NN (0, 0)) else some ((-2), s))))) else some ((-2), s)))
noncomputable def f_X12_lead (a1 : Int32) (a2 : Int32) (a3 : Int32) (s : St) : Option (Int64 × St) :=
  (f_X12_isQuestion a1 s).bind (fun v1 => jn (fun (y3 : Unit) => (f_X12_no (-2) s).bind (fun v4 => some (v4, s))) (fun K2 => (if v1 = true then (f_X12_in a2 0 1023 s).bind (fun v5 => (if v5 = true then (f_X12_in a3 0 1 s).bind (fun v6 => (if v6 = true then (f_X12_lays s).bind (fun s7 => (f_X12_countOf a2 true (-1) s7).bind (fun v8 => (f_X12_countOf a2 false (-1) s7).bind (fun v9 => jn (fun (y11 : Unit) => (f_X12_no (-3) s7).bind (fun v12 => some (v12, s7))) (fun K10 => (if v8 = 0 then K10 () else (if v9 = 0 then K10 () else gd (inb a1 12) ((if (s7.1 2 a1.toNatClampNeg) = 0 then K10 () else (f_X12_countOf a2 true a1 s7).bind (fun v13 => (f_X12_countOf a2 false a1 s7).bind (fun v14 => (f_X12_lowest (((v13 * v9) - (v14 * v8)).toInt64) ((v8 * v9).toInt64) a3 s7).bind (fun v15 => some (v15, s7)))))))))))) else K2 ())) else K2 ())) else K2 ())))
noncomputable def L_X12_choseMany_5 (a1 : Int32) (a2 : Int32) (s : St) (r1 : (Int32 × Int32) → Option Int32) (x2 : Int32 × Int32) : Option Int32 :=
  (if x2.1 < (s.1 0 5) then gd (inb ((12 * x2.1) + a1) 120) ((if (s.1 10 ((12 * x2.1) + a1).toNatClampNeg) = a2 then bv (x2.2 + 1) (fun v4 => r1 (x2.1 + 1, v4)) else bv (x2.2 + 0) (fun v3 => r1 (x2.1 + 1, v3)))) else some x2.2)
noncomputable def f_X12_choseMany (a1 : Int32) (a2 : Int32) (s : St) : Option Int32 :=
  lp (L_X12_choseMany_5 a1 a2 s) NN (0, 0)
noncomputable def L_X12_restSum_5 (a1 : Int32) (a2 : Int32) (s : St) (r1 : (Int32 × Int32) → Option Int32) (x2 : Int32 × Int32) : Option Int32 :=
  (if x2.1 < (s.1 0 5) then gd (inb ((12 * x2.1) + a1) 120) ((if (s.1 10 ((12 * x2.1) + a1).toNatClampNeg) = a2 then (f_X12_markBut x2.1 a1 s).bind (fun v4 => bv (x2.2 + v4) (fun v5 => r1 (x2.1 + 1, v5))) else bv (x2.2 + 0) (fun v3 => r1 (x2.1 + 1, v3)))) else some x2.2)
noncomputable def f_X12_restSum (a1 : Int32) (a2 : Int32) (s : St) : Option Int32 :=
  lp (L_X12_restSum_5 a1 a2 s) NN (0, 0)
noncomputable def f_X12_rest (a1 : Int32) (a2 : Int32) (a3 : Int32) (s : St) : Option (Int64 × St) :=
  (f_X12_isQuestion a1 s).bind (fun v1 => jn (fun (y3 : Unit) => (f_X12_no (-2) s).bind (fun v4 => some (v4, s))) (fun K2 => (if v1 = true then (f_X12_in a2 1 5 s).bind (fun v5 => (if v5 = true then (f_X12_in a3 0 1 s).bind (fun v6 => (if v6 = true then (f_X12_lays s).bind (fun s7 => (f_X12_choseMany a1 a2 s7).bind (fun v8 => (if v8 = 0 then (f_X12_no (-3) s7).bind (fun v11 => some (v11, s7)) else (f_X12_restSum a1 a2 s7).bind (fun v9 => (f_X12_lowest v9.toInt64 v8.toInt64 a3 s7).bind (fun v10 => some (v10, s7)))))) else K2 ())) else K2 ())) else K2 ())))
noncomputable def L_X12_shouldNow_10 (a1 : Int32) (s : St) (r1 : (Int32 × Int32 × Int32 × Int32) → Option Int32) (x2 : Int32 × Int32 × Int32 × Int32) : Option Int32 :=
  (if x2.1 < 6 then (f_X12_choseMany a1 x2.1 s).bind (fun v3 => (f_X12_restSum a1 x2.1 s).bind (fun v4 => jn (fun (y6 : Bool) => jn (fun (y8 : Int32) => jn (fun (y10 : Int32) => (if y6 = true then r1 (x2.1 + 1, v3, y10, y8) else r1 (x2.1 + 1, x2.2.1, y10, y8))) (fun K9 => (if y6 = true then K9 v4 else K9 x2.2.2.1))) (fun K7 => (if y6 = true then K7 x2.1 else K7 x2.2.2.2))) (fun K5 => (if 0 < v3 then (if x2.2.2.2 = (-1) then K5 true else (if (x2.2.2.1 * v3) < (v4 * x2.2.1) then K5 true else (if (v4 * x2.2.1) = (x2.2.2.1 * v3) then (if x2.2.1 < v3 then K5 true else K5 false) else K5 false))) else K5 false)))) else some x2.2.2.2)
noncomputable def f_X12_shouldNow (a1 : Int32) (s : St) : Option Int32 :=
  lp (L_X12_shouldNow_10 a1 s) NN (1, 1, 0, (-1))
noncomputable def f_X12_should (a1 : Int32) (s : St) : Option (Int32 × St) :=
  (f_X12_isQuestion a1 s).bind (fun v1 => (if v1 = true then (f_X12_lays s).bind (fun s2 => (f_X12_shouldNow a1 s2).bind (fun v3 => some (v3, s2))) else some ((-2), s)))
noncomputable def L_X12_badlyNow_4 (s : St) (r1 : (Int32 × Int32) → Option Int32) (x2 : Int32 × Int32) : Option Int32 :=
  (if x2.1 < (s.1 0 0) then (f_X12_shouldNow x2.1 s).bind (fun v3 => gd (inb x2.1 12) ((if (s.1 2 x2.1.toNatClampNeg) = 0 then bv (x2.2 ||| 0) (fun v4 => r1 (x2.1 + 1, v4)) else (if v3 = (-1) then bv (x2.2 ||| 0) (fun v5 => r1 (x2.1 + 1, v5)) else gd (inb x2.1 12) ((if v3 = (s.1 2 x2.1.toNatClampNeg) then bv (x2.2 ||| 0) (fun v6 => r1 (x2.1 + 1, v6)) else bv (x2.2 ||| (1 <<< (x2.1 &&& 31))) (fun v7 => r1 (x2.1 + 1, v7)))))))) else some x2.2)
noncomputable def f_X12_badlyNow  (s : St) : Option Int32 :=
  lp (L_X12_badlyNow_4 s) NN (0, 0)
noncomputable def f_X12_badly  (s : St) : Option (Int32 × St) :=
  (f_X12_lays s).bind (fun s1 => (f_X12_badlyNow s1).bind (fun v2 => some (v2, s1)))
noncomputable def L_X12_withoutNow_5 (a1 : Int32) (a2 : Int32) (s : St) (r1 : (Int32 × Int32) → Option Int32) (x2 : Int32 × Int32) : Option Int32 :=
  (if x2.1 < (s.1 0 5) then (if a2 = 0 then (f_X12_rankBut x2.1 a1 s).bind (fun v7 => (f_X12_rankBut x2.1 (-1) s).bind (fun v8 => (if v7 = v8 then bv (x2.2 + 0) (fun v9 => r1 (x2.1 + 1, v9)) else bv (x2.2 + 1) (fun v10 => r1 (x2.1 + 1, v10))))) else (f_X12_passesBut x2.1 a1 s).bind (fun v3 => (f_X12_passesBut x2.1 (-1) s).bind (fun v4 => (if (bI v3) = (bI v4) then bv (x2.2 + 0) (fun v5 => r1 (x2.1 + 1, v5)) else bv (x2.2 + 1) (fun v6 => r1 (x2.1 + 1, v6)))))) else some x2.2)
noncomputable def f_X12_withoutNow (a1 : Int32) (a2 : Int32) (s : St) : Option Int32 :=
  lp (L_X12_withoutNow_5 a1 a2 s) NN (0, 0)
noncomputable def f_X12_without (a1 : Int32) (a2 : Int32) (s : St) : Option (Int32 × St) :=
  (f_X12_isQuestion a1 s).bind (fun v1 => (if v1 = true then (f_X12_in a2 0 1 s).bind (fun v2 => (if v2 = true then (f_X12_lays s).bind (fun s3 => (f_X12_withoutNow a1 a2 s3).bind (fun v4 => some (v4, s3))) else some ((-2), s))) else some ((-2), s)))
noncomputable def f_X12_hardNow (a1 : Int32) (a2 : Int32) (s : St) : Option Int64 :=
  jn (fun (y2 : Unit) => (f_X12_no (-3) s).bind (fun v3 => some v3)) (fun K1 => (if (s.1 0 5) = 0 then K1 () else gd (inb a1 12) ((if (s.1 2 a1.toNatClampNeg) = 0 then K1 () else (f_X12_countOf 1023 true a1 s).bind (fun v4 => (f_X12_lowest v4.toInt64 ((s.1 0 5).toInt64) a2 s).bind (fun v5 => some v5))))))
noncomputable def f_X12_hard (a1 : Int32) (a2 : Int32) (s : St) : Option (Int64 × St) :=
  (f_X12_isQuestion a1 s).bind (fun v1 => jn (fun (y3 : Unit) => (f_X12_no (-2) s).bind (fun v4 => some (v4, s))) (fun K2 => (if v1 = true then (f_X12_in a2 0 1 s).bind (fun v5 => (if v5 = true then (f_X12_lays s).bind (fun s6 => (f_X12_hardNow a1 a2 s6).bind (fun v7 => some (v7, s6))) else K2 ())) else K2 ())))
noncomputable def L_X12_partsNow_113 (a1 : Int32) (y5 : St) (v6 : Int32) (K7 : Int32 → Option (Int64 × St)) (r10 : (Int32 × Int32) → Option (Int64 × St)) (x11 : Int32 × Int32) : Option (Int64 × St) :=
  (if x11.1 < v6 then gd (inb x11.1 10) ((f_X12_isRight (y5.1 15 x11.1.toNatClampNeg) a1 y5).bind (fun v12 => jn (fun (y14 : Bool) => bv (x11.2 + (bI y14)) (fun v15 => gd (inb (((y5.1 0 5) - 1) - x11.1) 10) ((f_X12_isRight (y5.1 15 (((y5.1 0 5) - 1) - x11.1).toNatClampNeg) a1 y5).bind (fun v16 => (if v16 = true then bv (v15 - 1) (fun v18 => r10 (x11.1 + 1, v18)) else bv (v15 - 0) (fun v17 => r10 (x11.1 + 1, v17))))))) (fun K13 => (if v12 = true then K13 true else K13 false)))) else K7 x11.2)
noncomputable def L_X12_partsNow_36 (a1 : Int32) (x20 : Int32 × St) (K21 : (Int32 × St) → Option (Int64 × St)) (r24 : (Int32 × St) → Option (Int64 × St)) (x25 : Int32 × St) : Option (Int64 × St) :=
  (if 0 < x25.1 then gd (inb (x25.1 - 1) 10) ((f_X12_markBut (x25.2.1 15 (x25.1 - 1).toNatClampNeg) a1 x25.2).bind (fun v26 => (f_X12_markBut x20.1 a1 x25.2).bind (fun v27 => (if v26 < v27 then gd (inb (x25.1 - 1) 10) (gd (inb x25.1 10) (bd (wI x25.2 15 x25.1.toNatClampNeg (x25.2.1 15 (x25.1 - 1).toNatClampNeg)) (fun s28 => r24 (x25.1 + (-1), s28)))) else K21 (x25.1, x25.2))))) else K21 (x25.1, x25.2))
noncomputable def L_X12_partsNow_25 (a1 : Int32) (K4 : St → Option (Int64 × St)) (r19 : (Int32 × St) → Option (Int64 × St)) (x20 : Int32 × St) : Option (Int64 × St) :=
  (if x20.1 < (x20.2.1 0 5) then jn (fun (y22 : Int32 × St) => gd (inb y22.1 10) (bd (wI y22.2 15 y22.1.toNatClampNeg x20.1) (fun s23 => r19 (x20.1 + 1, s23)))) (fun K21 => lp (L_X12_partsNow_36 a1 x20 K21) NN (x20.1, x20.2)) else K4 x20.2)
noncomputable def f_X12_partsNow (a1 : Int32) (a2 : Int32) (s : St) : Option (Int64 × St) :=
  jn (fun (y2 : Unit) => (f_X12_no (-3) s).bind (fun v3 => some (v3, s))) (fun K1 => (if (s.1 0 5) < 2 then K1 () else gd (inb a1 12) ((if (s.1 2 a1.toNatClampNeg) = 0 then K1 () else jn (fun (y5 : St) => gd (2 != (0 : Int32)) (bv ((y5.1 0 5) / 2) (fun v6 => jn (fun (y8 : Int32) => (f_X12_lowest y8.toInt64 v6.toInt64 a2 y5).bind (fun v9 => some (v9, y5))) (fun K7 => lp (L_X12_partsNow_113 a1 y5 v6 K7) NN (0, 0))))) (fun K4 => lp (L_X12_partsNow_25 a1 K4) NN (0, s))))))
noncomputable def f_X12_parts (a1 : Int32) (a2 : Int32) (s : St) : Option (Int64 × St) :=
  (f_X12_isQuestion a1 s).bind (fun v1 => jn (fun (y3 : Unit) => (f_X12_no (-2) s).bind (fun v4 => some (v4, s))) (fun K2 => (if v1 = true then (f_X12_in a2 0 1 s).bind (fun v5 => (if v5 = true then (f_X12_lays s).bind (fun s6 => (f_X12_partsNow a1 a2 s6).bind (fun p7 => some (p7.1, p7.2))) else K2 ())) else K2 ())))
noncomputable def L_X12_sheet_59 (a1 : Int32) (a3 : Int32) (r6 : (Int32 × St) → Option (Int32 × St)) (x7 : Int32 × St) : Option (Int32 × St) :=
  (if x7.1 < 48 then gd (inb ((48 * a1) + x7.1) 192) (bd (wI x7.2 22 ((48 * a1) + x7.1).toNatClampNeg 0) (fun s8 => r6 (x7.1 + 1, s8))) else some (a3, x7.2))
noncomputable def f_X12_sheet (a1 : Int32) (a2 : Int32) (a3 : Int32) (s : St) : Option (Int32 × St) :=
  (f_X12_isSheet a1 s).bind (fun v1 => (if v1 = true then (f_X12_in a2 0 2 s).bind (fun v2 => (if v2 = true then (if 48 < a3 then some ((-2), s) else (if a3 < 0 then (f_X12_meets 5 s).bind (fun p9 => some (p9.1, p9.2)) else gd (inb a1 4) (bd (wI s 19 a1.toNatClampNeg 1) (fun s3 => gd (inb a1 4) (bd (wI s3 20 a1.toNatClampNeg a2) (fun s4 => gd (inb a1 4) (bd (wI s4 21 a1.toNatClampNeg a3) (fun s5 => lp (L_X12_sheet_59 a1 a3) NN (0, s5))))))))) else some ((-2), s))) else some ((-2), s)))
noncomputable def f_X12_lose (a1 : Int32) (s : St) : Option (Int32 × St) :=
  (f_X12_isSheet a1 s).bind (fun v1 => (if v1 = true then gd (inb a1 4) ((if (s.1 19 a1.toNatClampNeg) = 0 then (f_X12_meets 1 s).bind (fun p3 => some (p3.1, p3.2)) else gd (inb a1 4) (bd (wI s 19 a1.toNatClampNeg 0) (fun s2 => gd (inb a1 4) (some (s2.1 21 a1.toNatClampNeg, s2)))))) else some ((-2), s)))
noncomputable def f_X12_lacks (a1 : Int32) (a2 : Int32) (a3 : Int32) (s : St) : Option Int32 :=
  gd (inb a1 4) ((if (s.1 19 a1.toNatClampNeg) = 0 then some 1 else gd (inb a1 4) ((if (s.1 20 a1.toNatClampNeg) = a2 then gd (inb a1 4) ((f_X12_in a3 0 ((s.1 21 a1.toNatClampNeg) - 1) s).bind (fun v1 => (if v1 = true then some 0 else some 2))) else some 3))))
noncomputable def f_X12_keep (a1 : Int32) (a2 : Int32) (a3 : Int32) (s : St) : Option St :=
  gd (inb a1 4) (jn (fun (y2 : Int32) => gd (inb ((48 * a1) + a2) 192) (bd (wI s 22 ((48 * a1) + a2).toNatClampNeg y2) (fun s3 => some s3))) (fun K1 => (if (s.1 20 a1.toNatClampNeg) = 0 then K1 a3.toInt8.toInt32 else gd (inb a1 4) ((if (s.1 20 a1.toNatClampNeg) = 1 then K1 a3.toInt16.toInt32 else K1 a3)))))
noncomputable def f_X12_put (a1 : Int32) (a2 : Int32) (a3 : Int32) (a4 : Int32) (s : St) : Option (Int32 × St) :=
  (f_X12_isSheet a1 s).bind (fun v1 => (if v1 = true then (f_X12_in a2 0 2 s).bind (fun v2 => (if v2 = true then (f_X12_lacks a1 a2 a3 s).bind (fun v3 => (if 0 < v3 then (f_X12_meets v3 s).bind (fun p5 => some (p5.1, p5.2)) else (f_X12_keep a1 a3 a4 s).bind (fun s4 => some (1, s4)))) else some ((-2), s))) else some ((-2), s)))
noncomputable def f_X12_get (a1 : Int32) (a2 : Int32) (a3 : Int32) (s : St) : Option (Int32 × St) :=
  (f_X12_isSheet a1 s).bind (fun v1 => (if v1 = true then (f_X12_in a2 0 2 s).bind (fun v2 => (if v2 = true then (f_X12_lacks a1 a2 a3 s).bind (fun v3 => (if 0 < v3 then bd (wI s 0 29 v3) (fun s4 => some ((-2147483648), s4)) else gd (inb ((48 * a1) + a3) 192) (some (s.1 22 ((48 * a1) + a3).toNatClampNeg, s)))) else some ((-2147483648), s))) else some ((-2147483648), s)))
noncomputable def L_X12_copy_157 (a3 : Int32) (a4 : Int32) (a5 : Int32) (r11 : (Int32 × St) → Option (Int32 × St)) (x12 : Int32 × St) : Option (Int32 × St) :=
  (if x12.1 < a5 then gd (inb x12.1 48) (gd (inb (((48 * a3) + a4) + x12.1) 192) (bd (wI x12.2 22 (((48 * a3) + a4) + x12.1).toNatClampNeg (x12.2.1 23 x12.1.toNatClampNeg)) (fun s13 => r11 (x12.1 + 1, s13)))) else some (1, x12.2))
noncomputable def L_X12_copy_120 (a1 : Int32) (a2 : Int32) (a5 : Int32) (K9 : St → Option (Int32 × St)) (r14 : (Int32 × St) → Option (Int32 × St)) (x15 : Int32 × St) : Option (Int32 × St) :=
  (if x15.1 < a5 then gd (inb (((48 * a1) + a2) + x15.1) 192) (gd (inb x15.1 48) (bd (wI x15.2 23 x15.1.toNatClampNeg (x15.2.1 22 (((48 * a1) + a2) + x15.1).toNatClampNeg)) (fun s16 => r14 (x15.1 + 1, s16)))) else K9 x15.2)
noncomputable def f_X12_copy (a1 : Int32) (a2 : Int32) (a3 : Int32) (a4 : Int32) (a5 : Int32) (s : St) : Option (Int32 × St) :=
  (f_X12_isSheet a1 s).bind (fun v1 => (if v1 = true then (f_X12_isSheet a3 s).bind (fun v2 => (if v2 = true then gd (inb a1 4) (jn (fun (y4 : Unit) => (f_X12_meets 1 s).bind (fun p5 => some (p5.1, p5.2))) (fun K3 => (if (s.1 19 a1.toNatClampNeg) = 0 then K3 () else gd (inb a3 4) ((if (s.1 19 a3.toNatClampNeg) = 0 then K3 () else gd (inb a1 4) (gd (inb a3 4) ((if (s.1 20 a1.toNatClampNeg) = (s.1 20 a3.toNatClampNeg) then jn (fun (y7 : Unit) => (f_X12_meets 2 s).bind (fun p8 => some (p8.1, p8.2))) (fun K6 => (if a2 < 0 then K6 () else (if a4 < 0 then K6 () else (if a5 < 0 then K6 () else gd (inb a1 4) ((if ((s.1 21 a1.toNatClampNeg).toInt64) < (a2.toInt64 + a5.toInt64) then K6 () else gd (inb a3 4) ((if ((s.1 21 a3.toNatClampNeg).toInt64) < (a4.toInt64 + a5.toInt64) then K6 () else jn (fun (y10 : St) => lp (L_X12_copy_157 a3 a4 a5) NN (0, y10)) (fun K9 => lp (L_X12_copy_120 a1 a2 a5 K9) NN (0, s)))))))))) else (f_X12_meets 4 s).bind (fun p17 => some (p17.1, p17.2)))))))))) else some ((-2), s))) else some ((-2), s)))
noncomputable def L_X12_write_39 (a1 : Int32) (a2 : Int32) (r4 : (Int32 × St) → Option (Int32 × St)) (x5 : Int32 × St) : Option (Int32 × St) :=
  (if x5.1 < (x5.2.1 0 0) then gd (inb a2 4) ((if x5.1 < (x5.2.1 21 a2.toNatClampNeg) then gd (inb ((12 * a1) + x5.1) 120) ((f_X12_keep a2 x5.1 (x5.2.1 10 ((12 * a1) + x5.1).toNatClampNeg) x5.2).bind (fun s6 => r4 (x5.1 + 1, s6))) else some (x5.1, x5.2))) else some (x5.1, x5.2))
noncomputable def f_X12_write (a1 : Int32) (a2 : Int32) (s : St) : Option (Int32 × St) :=
  (f_X12_isPupil a1 s).bind (fun v1 => (if v1 = true then (f_X12_isSheet a2 s).bind (fun v2 => (if v2 = true then gd (inb a2 4) ((if (s.1 19 a2.toNatClampNeg) = 0 then (f_X12_meets 1 s).bind (fun p7 => some (p7.1, p7.2)) else (f_X12_lays s).bind (fun s3 => lp (L_X12_write_39 a1 a2) NN (0, s3)))) else some ((-2), s))) else some ((-2), s)))
noncomputable def L_X12_sumOf_78 (a1 : Int32) (x5 : Int32 × Int32 × St) (K8 : (Int32 × St) → Option (Int32 × St)) (r14 : (Int32 × Int32 × St) → Option (Int32 × St)) (x15 : Int32 × Int32 × St) : Option (Int32 × St) :=
  (if x15.1 < x5.1 then (if a1 = 6 then (f_X12_areOdd x5.1 x15.1 x15.2.2).bind (fun p16 => (if p16.1 = true then bv (x15.2.1 + 1) (fun v18 => r14 (x15.1 + 1, v18, p16.2)) else bv (x15.2.1 + 0) (fun v17 => r14 (x15.1 + 1, v17, p16.2)))) else K8 (x15.2.1, x15.2.2)) else K8 (x15.2.1, x15.2.2))
noncomputable def L_X12_sumOf_32 (a1 : Int32) (x5 : Int32 × Int32 × St) (K6 : Int32 → Option (Int32 × St)) (r19 : (Int32 × Int32) → Option (Int32 × St)) (x20 : Int32 × Int32) : Option (Int32 × St) :=
  (if x20.1 < (x5.2.2.1 0 0) then (if a1 = 4 then gd (inb ((12 * x5.1) + x20.1) 120) ((if (x5.2.2.1 10 ((12 * x5.1) + x20.1).toNatClampNeg) = 0 then bv (x20.2 + 0) (fun v22 => r19 (x20.1 + 1, v22)) else bv (x20.2 + 1) (fun v21 => r19 (x20.1 + 1, v21)))) else K6 x20.2) else K6 x20.2)
noncomputable def L_X12_sumOf_21 (a1 : Int32) (r4 : (Int32 × Int32 × St) → Option (Int32 × St)) (x5 : Int32 × Int32 × St) : Option (Int32 × St) :=
  (if x5.1 < (x5.2.2.1 0 5) then jn (fun (y7 : Int32) => jn (fun (y9 : Int32 × St) => (if a1 = 5 then (f_X12_markBut x5.1 (-1) y9.2).bind (fun v12 => bv (y9.1 + v12) (fun v13 => r4 (x5.1 + 1, v13, y9.2))) else (if a1 = 7 then gd (inb x5.1 10) (bv (y9.1 + (y9.2.1 11 x5.1.toNatClampNeg)) (fun v11 => r4 (x5.1 + 1, v11, y9.2))) else bv (y9.1 + 0) (fun v10 => r4 (x5.1 + 1, v10, y9.2))))) (fun K8 => lp (L_X12_sumOf_78 a1 x5 K8) NN (0, y7, x5.2.2))) (fun K6 => lp (L_X12_sumOf_32 a1 x5 K6) NN (0, x5.2.1)) else some (x5.2.1, x5.2.2))
noncomputable def f_X12_sumOf (a1 : Int32) (s : St) : Option (Int32 × St) :=
  (f_X12_lays s).bind (fun s1 => jn (fun (y3 : Int32) => lp (L_X12_sumOf_21 a1) NN (0, y3, s1)) (fun K2 => (if a1 = 1 then (f_X12_openBut (-1) s1).bind (fun v23 => K2 v23) else K2 0)))
noncomputable def f_X12_count (a1 : Int32) (s : St) : Option (Int32 × St) :=
  (if a1 = 0 then some (s.1 0 0, s) else (if a1 = 1 then (f_X12_sumOf a1 s).bind (fun p1 => some (p1.1, p1.2)) else (if a1 = 2 then some (s.1 0 5, s) else (if a1 = 3 then some (s.1 0 8, s) else (if a1 = 4 then (f_X12_sumOf a1 s).bind (fun p2 => some (p2.1, p2.2)) else (if a1 = 5 then (f_X12_sumOf a1 s).bind (fun p3 => some (p3.1, p3.2)) else (if a1 = 6 then (f_X12_sumOf a1 s).bind (fun p4 => some (p4.1, p4.2)) else (if a1 = 7 then (f_X12_sumOf a1 s).bind (fun p5 => some (p5.1, p5.2)) else (if a1 = 8 then some (s.1 0 29, s) else some ((-2), s))))))))))
noncomputable def L_X12_digest_188 (K18 : (Int64 × St) → Option (Int64 × St)) (r21 : (Int32 × Int64 × St) → Option (Int64 × St)) (x22 : Int32 × Int64 × St) : Option (Int64 × St) :=
  (if x22.1 < (x22.2.2.1 0 0) then gd (inb x22.1 12) (bl ((31 * x22.2.1) + ((x22.2.2.1 2 x22.1.toNatClampNeg).toInt64)) (fun v23 => (f_X12_shouldNow x22.1 x22.2.2).bind (fun v24 => bl ((31 * v23) + v24.toInt64) (fun v25 => (f_X12_withoutNow x22.1 0 x22.2.2).bind (fun v26 => bl ((31 * v25) + v26.toInt64) (fun v27 => (f_X12_withoutNow x22.1 1 x22.2.2).bind (fun v28 => bl ((31 * v27) + v28.toInt64) (fun v29 => (f_X12_hardNow x22.1 0 x22.2.2).bind (fun v30 => bl ((31 * v29) + v30) (fun v31 => (f_X12_hardNow x22.1 1 x22.2.2).bind (fun v32 => bl ((31 * v31) + v32) (fun v33 => (f_X12_partsNow x22.1 0 x22.2.2).bind (fun p34 => bl ((31 * v33) + p34.1) (fun v35 => (f_X12_partsNow x22.1 1 p34.2).bind (fun p36 => bl ((31 * v35) + p36.1) (fun v37 => r21 (x22.1 + 1, v37, p36.2))))))))))))))))) else K18 (x22.2.1, x22.2.2))
noncomputable def L_X12_digest_90 (s5 : St) (r38 : (Int32 × Int64) → Option (Int64 × St)) (x39 : Int32 × Int64) (r42 : (Int32 × Int64) → Option (Int64 × St)) (x43 : Int32 × Int64) : Option (Int64 × St) :=
  (if x43.1 < 3 then (f_X12_rubbedOf x39.1 x43.1 s5).bind (fun v44 => bl ((31 * x43.2) + v44.toInt64) (fun v45 => r42 (x43.1 + 1, v45))) else r38 (x39.1 + 1, x43.2))
noncomputable def L_X12_digest_60 (s5 : St) (x39 : Int32 × Int64) (K40 : Int64 → Option (Int64 × St)) (r46 : (Int32 × Int64) → Option (Int64 × St)) (x47 : Int32 × Int64) : Option (Int64 × St) :=
  (if x47.1 < 4 then (f_X12_markOf x39.1 x47.1 s5).bind (fun v48 => bl ((31 * x47.2) + v48.toInt64) (fun v49 => r46 (x47.1 + 1, v49))) else K40 x47.2)
noncomputable def L_X12_digest_49 (s5 : St) (K6 : Int64 → Option (Int64 × St)) (r38 : (Int32 × Int64) → Option (Int64 × St)) (x39 : Int32 × Int64) : Option (Int64 × St) :=
  (if x39.1 < (s5.1 0 5) then jn (fun (y41 : Int64) => lp (L_X12_digest_90 s5 r38 x39) NN (0, y41)) (fun K40 => lp (L_X12_digest_60 s5 x39 K40) NN (0, x39.2)) else K6 x39.2)
noncomputable def L_X12_digest_6 (K1 : (Int64 × St) → Option (Int64 × St)) (r50 : (Int32 × Int64 × St) → Option (Int64 × St)) (x51 : Int32 × Int64 × St) : Option (Int64 × St) :=
  (if x51.1 < 8 then (f_X12_count x51.1 x51.2.2).bind (fun p52 => bl ((31 * x51.2.1) + p52.1.toInt64) (fun v53 => r50 (x51.1 + 1, v53, p52.2))) else K1 (x51.2.1, x51.2.2))
noncomputable def f_X12_digest  (s : St) : Option (Int64 × St) :=
  jn (fun (y2 : Int64 × St) => (f_X12_faultNow y2.2).bind (fun p3 => bl ((31 * y2.1) + p3.1.toInt64) (fun v4 => (f_X12_lays p3.2).bind (fun s5 => jn (fun (y7 : Int64) => (f_X12_seatsNow 0 s5).bind (fun p8 => bl ((31 * y7) + p8.1.toInt64) (fun v9 => (f_X12_sourcesNow p8.2).bind (fun p10 => bl ((31 * v9) + p10.1.toInt64) (fun v11 => (f_X12_chainNow p10.2).bind (fun p12 => bl ((31 * v11) + p12.1.toInt64) (fun v13 => (f_X12_gainsNow 1 0 p12.2).bind (fun v14 => bl ((31 * v13) + v14) (fun v15 => (f_X12_gainsNow 1 1 p12.2).bind (fun v16 => bl ((31 * v15) + v16) (fun v17 => jn (fun (y19 : Int64 × St) => (f_X12_badlyNow y19.2).bind (fun v20 => some ((31 * y19.1) + v20.toInt64, y19.2))) (fun K18 => lp (L_X12_digest_188 K18) NN (0, v17, p12.2))))))))))))) (fun K6 => lp (L_X12_digest_49 s5 K6) NN (0, v4)))))) (fun K1 => lp (L_X12_digest_6 K1) NN (0, 17, s))
