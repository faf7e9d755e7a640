theorem lw_ds : lw_Dec [(0, .new 7, 3), (3, .dup, 1), (4, .invokespecial 9, 3), (7, .astore_n 1, 1), (8, .new 10, 3), (11, .dup, 1), (12, .invokespecial 12, 3), (15, .astore_n 2, 1), (16, .iconst 0, 1), (17, .istore_n 3, 1), (18, .iload_n 3, 1), (19, .aload_n 0, 1), (20, .arraylength, 1), (21, .bipush 6, 2), (23, .isub, 1), (24, .if_icmp .gt 1548, 3), (27, .aload_n 0, 1), (28, .iload_n 3, 1), (29, .iaload, 1), (30, .bipush 63, 2), (32, .iand, 1), (33, .tableswitch 1533 0 49 #[215, 278, 301, 314, 337, 370, 403, 436, 459, 472, 515, 538, 551, 564, 577, 600, 623, 656, 689, 732, 755, 778, 811, 834, 857, 880, 903, 926, 949, 982, 1005, 1028, 1061, 1074, 1087, 1100, 1113, 1126, 1159, 1182, 1231, 1280, 1329, 1352, 1375, 1398, 1431, 1464, 1487, 1510], 215)] := by unfold lw_Dec; decide +kernel
theorem lw_dt : lw_Dec [(18, .iload_n 3, 1), (19, .aload_n 0, 1), (20, .arraylength, 1), (21, .bipush 6, 2), (23, .isub, 1), (24, .if_icmp .gt 1548, 3), (1566, .iinc 3 6, 3), (1569, .goto (-1551), 3), (1572, .iconst 1, 1), (1573, .ireturn, 1)] := by unfold lw_Dec; decide +kernel
section
variable {p : Program} {l : Launch} {e : Env} {s : State} {m : MethodId} {below : List Frame} {meth : Method} {c : Code} {b L : Nat} {xs : Nat → Int32} {H : Heap} {locs : List Loc} {ls : Array Slot} {cn sn : Nat}
theorem lw_exit (C0 : lw_At p s m meth c b L xs) (hS : va_S (lw_A s) s.heap H locs) (hcn : cn ≤ 600000) (hsn : sn ≤ 7302250) : W p l e room_1 s m #[Value.ref b] below meth c H locs cn sn (lw_Z below #[Value.ref b] s) (F0 m 1572 ls []) := by
  obtain ⟨hx, hb, hr, hml, hown, hts, hX, hbl, hlocks, hgv⟩ := id C0
  refine va_forget (fun q hq => hS.2.2 q hq) (W.widen hcn hsn ?_)
  exact lv_iconst (v := 1) hx hb (lw_dt (1572, .iconst 1, 1) (by simp)) (by decide) (lw_ret hx hb hr hlocks (lw_dt (1573, .ireturn, 1) (by simp)))
theorem lw_head (C0 : lw_At p s m meth c b L xs) (hL : L ≤ 3072) {i : Nat} (hi : i ≤ L + 6) (hS : va_S (lw_A s) s.heap H locs) (h0 : ls[0]? = some (.val (.ref b))) (h3 : ls[3]? = some (.val (.int (nI i)))) (hcn : cn ≤ 600000) (hsn : sn ≤ 7302250) (k : i + 6 ≤ L → W p l e room_1 s m #[Value.ref b] below meth c H locs cn sn (lw_Z below #[Value.ref b] s) (F0 m 27 ls [])) : W p l e room_1 s m #[Value.ref b] below meth c H locs cn sn (lw_Z below #[Value.ref b] s) (F0 m 18 ls []) := by
  obtain ⟨hx, hb, hr, hml, hown, hts, hX, hbl, hlocks, hgv⟩ := id C0
  have hbA : ¬ lw_A s b := Nat.not_le.mpr hbl
  refine lv_iload_n hx hb (lw_dt (18, .iload_n 3, 1) (by simp)) rfl h3 ?_
  refine lv_aload_n hx hb (lw_dt (19, .aload_n 0, 1) (by simp)) rfl h0 ?_
  refine va_slen hx hb hX hbl hbA hS (lw_dt (20, .arraylength, 1) (by simp)) ?_
  refine lv_bipush (v := 6) hx hb (lw_dt (21, .bipush 6, 2) (by simp)) (by decide) ?_
  refine lv_isub hx hb (lw_dt (23, .isub, 1) (by simp)) ?_
  have t1 : (Int32.ofNat L - 6).toInt = (L : Int) - 6 := by
    have e1 : (Int32.ofNat L).toInt = (L : Int) := nI_toInt (n := L) (by omega)
    have e2 : (6 : Int32).toInt = 6 := by decide
    rw [Int32.toInt_sub, e1, e2, rv_bmod (by omega) (by omega)]
  have t2 : (nI i).toInt = (i : Int) := nI_toInt (by omega)
  refine lv_icmp_gt (tgt := 1572) hx hb (lw_dt (24, .if_icmp .gt 1548, 3) (by simp)) (by decide) (fun _ => lw_exit C0 hS hcn hsn) (fun q => k ?_)
  rw [Int32.lt_iff_toInt_lt, t1, t2] at q
  omega
end
set_option maxRecDepth 100000 in
set_option maxHeartbeats 4000000 in
theorem lw_body0 {p : Program} {l : Launch} {e : Env} {s : State} {m : MethodId} {below : List Frame} {meth : Method} {c : Code} {b L : Nat} {xs : Nat → Int32} {D : va_G} {cy : Nat → ClassId} {st : Nat → Nat} {h1 h2 : rv_G} {H : Heap} {locs : List Loc} {ls : Array Slot} {i : Nat} {cn sn : Nat} (C0 : lw_At p s m meth c b L xs) (hL : L ≤ 3072) (hi : i + 6 ≤ L) (Cx : rv_Cx p s m #[Value.ref b] c code R_law 4 lw_tbl D vwCl cy (lw_A s) st) (hN : rv_NWs rv_NW s) (IV : lw_Inv D cy st s h1 h2 lw_M0 H locs) (hl : lv_has ls 4 [(3, .int (nI i)), (2, .ref (h2.2.1 0)), (1, .ref (h1.2.1 0)), (0, .ref b)]) (hcn : cn ≤ 600000) (hsn : sn ≤ 7302250) (tail : lw_Tail p l e s m below meth c b D cy st h1 h2 ls cn sn) : W p l e room_1 s m #[Value.ref b] below meth c H locs cn sn (lw_Z below #[Value.ref b] s) (F0 m 27 ls []) := by
  obtain ⟨hx, hb, hr, hml, hown, hts, hX, hbl, hlocks, hgv⟩ := id C0
  have hS := IV.2.2.2.2.2
  have hbA : ¬ lw_A s b := Nat.not_le.mpr hbl
  have dd : ∀ {n : Nat} {q : Nat × Instr × Nat}, ([(0, .new 7, 3), (3, .dup, 1), (4, .invokespecial 9, 3), (7, .astore_n 1, 1), (8, .new 10, 3), (11, .dup, 1), (12, .invokespecial 12, 3), (15, .astore_n 2, 1), (16, .iconst 0, 1), (17, .istore_n 3, 1), (18, .iload_n 3, 1), (19, .aload_n 0, 1), (20, .arraylength, 1), (21, .bipush 6, 2), (23, .isub, 1), (24, .if_icmp .gt 1548, 3), (27, .aload_n 0, 1), (28, .iload_n 3, 1), (29, .iaload, 1), (30, .bipush 63, 2), (32, .iand, 1), (33, .tableswitch 1533 0 49 #[215, 278, 301, 314, 337, 370, 403, 436, 459, 472, 515, 538, 551, 564, 577, 600, 623, 656, 689, 732, 755, 778, 811, 834, 857, 880, 903, 926, 949, 982, 1005, 1028, 1061, 1074, 1087, 1100, 1113, 1126, 1159, 1182, 1231, 1280, 1329, 1352, 1375, 1398, 1431, 1464, 1487, 1510], 215)] : List (Nat × Instr × Nat))[n]? = some q → decode code q.1 = .ok (q.2.1, q.2.2) := fun h => lw_ds _ (List.mem_of_getElem? h)
  refine lv_aload_n hx hb (dd (n := 16) (q := (27, .aload_n 0, 1)) rfl) rfl (lv_at hl 3 rfl) ?_
  refine lv_iload_n hx hb (dd (n := 17) (q := (28, .iload_n 3, 1)) rfl) rfl (lv_at hl 0 rfl) ?_
  refine va_sld hx hb hX hbl hbA hS (vp_in_nI (n := i) (N := L) (by omega) (by omega)) (dd (n := 18) (q := (29, .iaload, 1)) rfl) ?_
  rw [nI_clamp (by omega)]
  refine lv_bipush (v := 63) hx hb (dd (n := 19) (q := (30, .bipush 63, 2)) rfl) (by decide) ?_
  refine lv_iand hx hb (dd (n := 20) (q := (32, .iand, 1)) rfl) ?_
  obtain ⟨j, hj, ej⟩ := pk_andE (xs i) (m := 63) 6 (by decide)
  have ej : xs i &&& 63 = nI j := ej
  show W p l e room_1 s m #[Value.ref b] below meth c H locs cn sn (lw_Z below #[Value.ref b] s) (F0 m 33 ls [.int (xs i &&& 63)])
  rw [ej]
  have d33 := (dd (n := 21) (q := (33, .tableswitch 1533 0 49 #[215, 278, 301, 314, 337, 370, 403, 436, 459, 472, 515, 538, 551, 564, 577, 600, 623, 656, 689, 732, 755, 778, 811, 834, 857, 880, 903, 926, 949, 982, 1005, 1028, 1061, 1074, 1087, 1100, 1113, 1126, 1159, 1182, 1231, 1280, 1329, 1352, 1375, 1398, 1431, 1464, 1487, 1510], 215)) rfl)
  match j, hj with
  | 0, _ => exact lv_tableIn (off := 215) (tgt := 248) hx hb d33 (by decide) (by decide) rfl (by decide) (lw_c0_0 C0 hL hi Cx hN IV hl hcn hsn tail)
  | 1, _ => exact lv_tableIn (off := 278) (tgt := 311) hx hb d33 (by decide) (by decide) rfl (by decide) (lw_c1_0 C0 hL hi Cx hN IV hl hcn hsn tail)
  | 2, _ => exact lv_tableIn (off := 301) (tgt := 334) hx hb d33 (by decide) (by decide) rfl (by decide) (lw_c2_0 C0 hL hi Cx hN IV hl hcn hsn tail)
  | 3, _ => exact lv_tableIn (off := 314) (tgt := 347) hx hb d33 (by decide) (by decide) rfl (by decide) (lw_c3_0 C0 hL hi Cx hN IV hl hcn hsn tail)
  | 4, _ => exact lv_tableIn (off := 337) (tgt := 370) hx hb d33 (by decide) (by decide) rfl (by decide) (lw_c4_0 C0 hL hi Cx hN IV hl hcn hsn tail)
  | 5, _ => exact lv_tableIn (off := 370) (tgt := 403) hx hb d33 (by decide) (by decide) rfl (by decide) (lw_c5_0 C0 hL hi Cx hN IV hl hcn hsn tail)
  | 6, _ => exact lv_tableIn (off := 403) (tgt := 436) hx hb d33 (by decide) (by decide) rfl (by decide) (lw_c6_0 C0 hL hi Cx hN IV hl hcn hsn tail)
  | 7, _ => exact lv_tableIn (off := 436) (tgt := 469) hx hb d33 (by decide) (by decide) rfl (by decide) (lw_c7_0 C0 hL hi Cx hN IV hl hcn hsn tail)
  | 8, _ => exact lv_tableIn (off := 459) (tgt := 492) hx hb d33 (by decide) (by decide) rfl (by decide) (lw_c8_0 C0 hL hi Cx hN IV hl hcn hsn tail)
  | 9, _ => exact lv_tableIn (off := 472) (tgt := 505) hx hb d33 (by decide) (by decide) rfl (by decide) (lw_c9_0 C0 hL hi Cx hN IV hl hcn hsn tail)
  | 10, _ => exact lv_tableIn (off := 515) (tgt := 548) hx hb d33 (by decide) (by decide) rfl (by decide) (lw_c10_0 C0 hL hi Cx hN IV hl hcn hsn tail)
  | 11, _ => exact lv_tableIn (off := 538) (tgt := 571) hx hb d33 (by decide) (by decide) rfl (by decide) (lw_c11_0 C0 hL hi Cx hN IV hl hcn hsn tail)
  | 12, _ => exact lv_tableIn (off := 551) (tgt := 584) hx hb d33 (by decide) (by decide) rfl (by decide) (lw_c12_0 C0 hL hi Cx hN IV hl hcn hsn tail)
  | 13, _ => exact lv_tableIn (off := 564) (tgt := 597) hx hb d33 (by decide) (by decide) rfl (by decide) (lw_c13_0 C0 hL hi Cx hN IV hl hcn hsn tail)
  | 14, _ => exact lv_tableIn (off := 577) (tgt := 610) hx hb d33 (by decide) (by decide) rfl (by decide) (lw_c14_0 C0 hL hi Cx hN IV hl hcn hsn tail)
  | 15, _ => exact lv_tableIn (off := 600) (tgt := 633) hx hb d33 (by decide) (by decide) rfl (by decide) (lw_c15_0 C0 hL hi Cx hN IV hl hcn hsn tail)
  | 16, _ => exact lv_tableIn (off := 623) (tgt := 656) hx hb d33 (by decide) (by decide) rfl (by decide) (lw_c16_0 C0 hL hi Cx hN IV hl hcn hsn tail)
  | 17, _ => exact lv_tableIn (off := 656) (tgt := 689) hx hb d33 (by decide) (by decide) rfl (by decide) (lw_c17_0 C0 hL hi Cx hN IV hl hcn hsn tail)
  | 18, _ => exact lv_tableIn (off := 689) (tgt := 722) hx hb d33 (by decide) (by decide) rfl (by decide) (lw_c18_0 C0 hL hi Cx hN IV hl hcn hsn tail)
  | 19, _ => exact lv_tableIn (off := 732) (tgt := 765) hx hb d33 (by decide) (by decide) rfl (by decide) (lw_c19_0 C0 hL hi Cx hN IV hl hcn hsn tail)
  | 20, _ => exact lv_tableIn (off := 755) (tgt := 788) hx hb d33 (by decide) (by decide) rfl (by decide) (lw_c20_0 C0 hL hi Cx hN IV hl hcn hsn tail)
  | 21, _ => exact lv_tableIn (off := 778) (tgt := 811) hx hb d33 (by decide) (by decide) rfl (by decide) (lw_c21_0 C0 hL hi Cx hN IV hl hcn hsn tail)
  | 22, _ => exact lv_tableIn (off := 811) (tgt := 844) hx hb d33 (by decide) (by decide) rfl (by decide) (lw_c22_0 C0 hL hi Cx hN IV hl hcn hsn tail)
  | 23, _ => exact lv_tableIn (off := 834) (tgt := 867) hx hb d33 (by decide) (by decide) rfl (by decide) (lw_c23_0 C0 hL hi Cx hN IV hl hcn hsn tail)
  | 24, _ => exact lv_tableIn (off := 857) (tgt := 890) hx hb d33 (by decide) (by decide) rfl (by decide) (lw_c24_0 C0 hL hi Cx hN IV hl hcn hsn tail)
  | 25, _ => exact lv_tableIn (off := 880) (tgt := 913) hx hb d33 (by decide) (by decide) rfl (by decide) (lw_c25_0 C0 hL hi Cx hN IV hl hcn hsn tail)
  | 26, _ => exact lv_tableIn (off := 903) (tgt := 936) hx hb d33 (by decide) (by decide) rfl (by decide) (lw_c26_0 C0 hL hi Cx hN IV hl hcn hsn tail)
  | 27, _ => exact lv_tableIn (off := 926) (tgt := 959) hx hb d33 (by decide) (by decide) rfl (by decide) (lw_c27_0 C0 hL hi Cx hN IV hl hcn hsn tail)
  | 28, _ => exact lv_tableIn (off := 949) (tgt := 982) hx hb d33 (by decide) (by decide) rfl (by decide) (lw_c28_0 C0 hL hi Cx hN IV hl hcn hsn tail)
  | 29, _ => exact lv_tableIn (off := 982) (tgt := 1015) hx hb d33 (by decide) (by decide) rfl (by decide) (lw_c29_0 C0 hL hi Cx hN IV hl hcn hsn tail)
  | 30, _ => exact lv_tableIn (off := 1005) (tgt := 1038) hx hb d33 (by decide) (by decide) rfl (by decide) (lw_c30_0 C0 hL hi Cx hN IV hl hcn hsn tail)
  | 31, _ => exact lv_tableIn (off := 1028) (tgt := 1061) hx hb d33 (by decide) (by decide) rfl (by decide) (lw_c31_0 C0 hL hi Cx hN IV hl hcn hsn tail)
  | 32, _ => exact lv_tableIn (off := 1061) (tgt := 1094) hx hb d33 (by decide) (by decide) rfl (by decide) (lw_c32_0 C0 hL hi Cx hN IV hl hcn hsn tail)
  | 33, _ => exact lv_tableIn (off := 1074) (tgt := 1107) hx hb d33 (by decide) (by decide) rfl (by decide) (lw_c33_0 C0 hL hi Cx hN IV hl hcn hsn tail)
  | 34, _ => exact lv_tableIn (off := 1087) (tgt := 1120) hx hb d33 (by decide) (by decide) rfl (by decide) (lw_c34_0 C0 hL hi Cx hN IV hl hcn hsn tail)
  | 35, _ => exact lv_tableIn (off := 1100) (tgt := 1133) hx hb d33 (by decide) (by decide) rfl (by decide) (lw_c35_0 C0 hL hi Cx hN IV hl hcn hsn tail)
  | 36, _ => exact lv_tableIn (off := 1113) (tgt := 1146) hx hb d33 (by decide) (by decide) rfl (by decide) (lw_c36_0 C0 hL hi Cx hN IV hl hcn hsn tail)
  | 37, _ => exact lv_tableIn (off := 1126) (tgt := 1159) hx hb d33 (by decide) (by decide) rfl (by decide) (lw_c37_0 C0 hL hi Cx hN IV hl hcn hsn tail)
  | 38, _ => exact lv_tableIn (off := 1159) (tgt := 1192) hx hb d33 (by decide) (by decide) rfl (by decide) (lw_c38_0 C0 hL hi Cx hN IV hl hcn hsn tail)
  | 39, _ => exact lv_tableIn (off := 1182) (tgt := 1215) hx hb d33 (by decide) (by decide) rfl (by decide) (lw_c39_0 C0 hL hi Cx hN IV hl hcn hsn tail)
  | 40, _ => exact lv_tableIn (off := 1231) (tgt := 1264) hx hb d33 (by decide) (by decide) rfl (by decide) (lw_c40_0 C0 hL hi Cx hN IV hl hcn hsn tail)
  | 41, _ => exact lv_tableIn (off := 1280) (tgt := 1313) hx hb d33 (by decide) (by decide) rfl (by decide) (lw_c41_0 C0 hL hi Cx hN IV hl hcn hsn tail)
  | 42, _ => exact lv_tableIn (off := 1329) (tgt := 1362) hx hb d33 (by decide) (by decide) rfl (by decide) (lw_c42_0 C0 hL hi Cx hN IV hl hcn hsn tail)
  | 43, _ => exact lv_tableIn (off := 1352) (tgt := 1385) hx hb d33 (by decide) (by decide) rfl (by decide) (lw_c43_0 C0 hL hi Cx hN IV hl hcn hsn tail)
  | 44, _ => exact lv_tableIn (off := 1375) (tgt := 1408) hx hb d33 (by decide) (by decide) rfl (by decide) (lw_c44_0 C0 hL hi Cx hN IV hl hcn hsn tail)
  | 45, _ => exact lv_tableIn (off := 1398) (tgt := 1431) hx hb d33 (by decide) (by decide) rfl (by decide) (lw_c45_0 C0 hL hi Cx hN IV hl hcn hsn tail)
  | 46, _ => exact lv_tableIn (off := 1431) (tgt := 1464) hx hb d33 (by decide) (by decide) rfl (by decide) (lw_c46_0 C0 hL hi Cx hN IV hl hcn hsn tail)
  | 47, _ => exact lv_tableIn (off := 1464) (tgt := 1497) hx hb d33 (by decide) (by decide) rfl (by decide) (lw_c47_0 C0 hL hi Cx hN IV hl hcn hsn tail)
  | 48, _ => exact lv_tableIn (off := 1487) (tgt := 1520) hx hb d33 (by decide) (by decide) rfl (by decide) (lw_c48_0 C0 hL hi Cx hN IV hl hcn hsn tail)
  | 49, _ => exact lv_tableIn (off := 1510) (tgt := 1543) hx hb d33 (by decide) (by decide) rfl (by decide) (lw_c49_0 C0 hL hi Cx hN IV hl hcn hsn tail)
  | j + 50, hj => exact lv_tableOut (tgt := 1566) hx hb d33 (Or.inr (by rw [nI_toInt (by omega)]; omega)) (by decide) (tail h1 h2 lw_M0 H locs (Or.inl rfl) rfl rfl IV)
set_option maxRecDepth 100000 in
set_option maxHeartbeats 4000000 in
theorem lw_body1 {p : Program} {l : Launch} {e : Env} {s : State} {m : MethodId} {below : List Frame} {meth : Method} {c : Code} {b L : Nat} {xs : Nat → Int32} {D : va_G} {cy : Nat → ClassId} {st : Nat → Nat} {h1 h2 : rv_G} {H : Heap} {locs : List Loc} {ls : Array Slot} {i : Nat} {cn sn : Nat} (C0 : lw_At p s m meth c b L xs) (hL : L ≤ 3072) (hi : i + 6 ≤ L) (Cx : rv_Cx p s m #[Value.ref b] c code R_law 4 lw_tbl D vwCl cy (lw_A s) st) (hN : rv_NWs rv_NW s) (IV : lw_Inv D cy st s h1 h2 lw_M1 H locs) (hl : lv_has ls 4 [(3, .int (nI i)), (2, .ref (h2.2.1 0)), (1, .ref (h1.2.1 0)), (0, .ref b)]) (hcn : cn ≤ 600000) (hsn : sn ≤ 7302250) (tail : lw_Tail p l e s m below meth c b D cy st h1 h2 ls cn sn) : W p l e room_1 s m #[Value.ref b] below meth c H locs cn sn (lw_Z below #[Value.ref b] s) (F0 m 27 ls []) := by
  obtain ⟨hx, hb, hr, hml, hown, hts, hX, hbl, hlocks, hgv⟩ := id C0
  have hS := IV.2.2.2.2.2
  have hbA : ¬ lw_A s b := Nat.not_le.mpr hbl
  have dd : ∀ {n : Nat} {q : Nat × Instr × Nat}, ([(0, .new 7, 3), (3, .dup, 1), (4, .invokespecial 9, 3), (7, .astore_n 1, 1), (8, .new 10, 3), (11, .dup, 1), (12, .invokespecial 12, 3), (15, .astore_n 2, 1), (16, .iconst 0, 1), (17, .istore_n 3, 1), (18, .iload_n 3, 1), (19, .aload_n 0, 1), (20, .arraylength, 1), (21, .bipush 6, 2), (23, .isub, 1), (24, .if_icmp .gt 1548, 3), (27, .aload_n 0, 1), (28, .iload_n 3, 1), (29, .iaload, 1), (30, .bipush 63, 2), (32, .iand, 1), (33, .tableswitch 1533 0 49 #[215, 278, 301, 314, 337, 370, 403, 436, 459, 472, 515, 538, 551, 564, 577, 600, 623, 656, 689, 732, 755, 778, 811, 834, 857, 880, 903, 926, 949, 982, 1005, 1028, 1061, 1074, 1087, 1100, 1113, 1126, 1159, 1182, 1231, 1280, 1329, 1352, 1375, 1398, 1431, 1464, 1487, 1510], 215)] : List (Nat × Instr × Nat))[n]? = some q → decode code q.1 = .ok (q.2.1, q.2.2) := fun h => lw_ds _ (List.mem_of_getElem? h)
  refine lv_aload_n hx hb (dd (n := 16) (q := (27, .aload_n 0, 1)) rfl) rfl (lv_at hl 3 rfl) ?_
  refine lv_iload_n hx hb (dd (n := 17) (q := (28, .iload_n 3, 1)) rfl) rfl (lv_at hl 0 rfl) ?_
  refine va_sld hx hb hX hbl hbA hS (vp_in_nI (n := i) (N := L) (by omega) (by omega)) (dd (n := 18) (q := (29, .iaload, 1)) rfl) ?_
  rw [nI_clamp (by omega)]
  refine lv_bipush (v := 63) hx hb (dd (n := 19) (q := (30, .bipush 63, 2)) rfl) (by decide) ?_
  refine lv_iand hx hb (dd (n := 20) (q := (32, .iand, 1)) rfl) ?_
  obtain ⟨j, hj, ej⟩ := pk_andE (xs i) (m := 63) 6 (by decide)
  have ej : xs i &&& 63 = nI j := ej
  show W p l e room_1 s m #[Value.ref b] below meth c H locs cn sn (lw_Z below #[Value.ref b] s) (F0 m 33 ls [.int (xs i &&& 63)])
  rw [ej]
  have d33 := (dd (n := 21) (q := (33, .tableswitch 1533 0 49 #[215, 278, 301, 314, 337, 370, 403, 436, 459, 472, 515, 538, 551, 564, 577, 600, 623, 656, 689, 732, 755, 778, 811, 834, 857, 880, 903, 926, 949, 982, 1005, 1028, 1061, 1074, 1087, 1100, 1113, 1126, 1159, 1182, 1231, 1280, 1329, 1352, 1375, 1398, 1431, 1464, 1487, 1510], 215)) rfl)
  match j, hj with
  | 0, _ => exact lv_tableIn (off := 215) (tgt := 248) hx hb d33 (by decide) (by decide) rfl (by decide) (lw_c0_1 C0 hL hi Cx hN IV hl hcn hsn tail)
  | 1, _ => exact lv_tableIn (off := 278) (tgt := 311) hx hb d33 (by decide) (by decide) rfl (by decide) (lw_c1_1 C0 hL hi Cx hN IV hl hcn hsn tail)
  | 2, _ => exact lv_tableIn (off := 301) (tgt := 334) hx hb d33 (by decide) (by decide) rfl (by decide) (lw_c2_1 C0 hL hi Cx hN IV hl hcn hsn tail)
  | 3, _ => exact lv_tableIn (off := 314) (tgt := 347) hx hb d33 (by decide) (by decide) rfl (by decide) (lw_c3_1 C0 hL hi Cx hN IV hl hcn hsn tail)
  | 4, _ => exact lv_tableIn (off := 337) (tgt := 370) hx hb d33 (by decide) (by decide) rfl (by decide) (lw_c4_1 C0 hL hi Cx hN IV hl hcn hsn tail)
  | 5, _ => exact lv_tableIn (off := 370) (tgt := 403) hx hb d33 (by decide) (by decide) rfl (by decide) (lw_c5_1 C0 hL hi Cx hN IV hl hcn hsn tail)
  | 6, _ => exact lv_tableIn (off := 403) (tgt := 436) hx hb d33 (by decide) (by decide) rfl (by decide) (lw_c6_1 C0 hL hi Cx hN IV hl hcn hsn tail)
  | 7, _ => exact lv_tableIn (off := 436) (tgt := 469) hx hb d33 (by decide) (by decide) rfl (by decide) (lw_c7_1 C0 hL hi Cx hN IV hl hcn hsn tail)
  | 8, _ => exact lv_tableIn (off := 459) (tgt := 492) hx hb d33 (by decide) (by decide) rfl (by decide) (lw_c8_1 C0 hL hi Cx hN IV hl hcn hsn tail)
  | 9, _ => exact lv_tableIn (off := 472) (tgt := 505) hx hb d33 (by decide) (by decide) rfl (by decide) (lw_c9_1 C0 hL hi Cx hN IV hl hcn hsn tail)
  | 10, _ => exact lv_tableIn (off := 515) (tgt := 548) hx hb d33 (by decide) (by decide) rfl (by decide) (lw_c10_1 C0 hL hi Cx hN IV hl hcn hsn tail)
  | 11, _ => exact lv_tableIn (off := 538) (tgt := 571) hx hb d33 (by decide) (by decide) rfl (by decide) (lw_c11_1 C0 hL hi Cx hN IV hl hcn hsn tail)
  | 12, _ => exact lv_tableIn (off := 551) (tgt := 584) hx hb d33 (by decide) (by decide) rfl (by decide) (lw_c12_1 C0 hL hi Cx hN IV hl hcn hsn tail)
  | 13, _ => exact lv_tableIn (off := 564) (tgt := 597) hx hb d33 (by decide) (by decide) rfl (by decide) (lw_c13_1 C0 hL hi Cx hN IV hl hcn hsn tail)
  | 14, _ => exact lv_tableIn (off := 577) (tgt := 610) hx hb d33 (by decide) (by decide) rfl (by decide) (lw_c14_1 C0 hL hi Cx hN IV hl hcn hsn tail)
  | 15, _ => exact lv_tableIn (off := 600) (tgt := 633) hx hb d33 (by decide) (by decide) rfl (by decide) (lw_c15_1 C0 hL hi Cx hN IV hl hcn hsn tail)
  | 16, _ => exact lv_tableIn (off := 623) (tgt := 656) hx hb d33 (by decide) (by decide) rfl (by decide) (lw_c16_1 C0 hL hi Cx hN IV hl hcn hsn tail)
  | 17, _ => exact lv_tableIn (off := 656) (tgt := 689) hx hb d33 (by decide) (by decide) rfl (by decide) (lw_c17_1 C0 hL hi Cx hN IV hl hcn hsn tail)
  | 18, _ => exact lv_tableIn (off := 689) (tgt := 722) hx hb d33 (by decide) (by decide) rfl (by decide) (lw_c18_1 C0 hL hi Cx hN IV hl hcn hsn tail)
  | 19, _ => exact lv_tableIn (off := 732) (tgt := 765) hx hb d33 (by decide) (by decide) rfl (by decide) (lw_c19_1 C0 hL hi Cx hN IV hl hcn hsn tail)
  | 20, _ => exact lv_tableIn (off := 755) (tgt := 788) hx hb d33 (by decide) (by decide) rfl (by decide) (lw_c20_1 C0 hL hi Cx hN IV hl hcn hsn tail)
  | 21, _ => exact lv_tableIn (off := 778) (tgt := 811) hx hb d33 (by decide) (by decide) rfl (by decide) (lw_c21_1 C0 hL hi Cx hN IV hl hcn hsn tail)
  | 22, _ => exact lv_tableIn (off := 811) (tgt := 844) hx hb d33 (by decide) (by decide) rfl (by decide) (lw_c22_1 C0 hL hi Cx hN IV hl hcn hsn tail)
  | 23, _ => exact lv_tableIn (off := 834) (tgt := 867) hx hb d33 (by decide) (by decide) rfl (by decide) (lw_c23_1 C0 hL hi Cx hN IV hl hcn hsn tail)
  | 24, _ => exact lv_tableIn (off := 857) (tgt := 890) hx hb d33 (by decide) (by decide) rfl (by decide) (lw_c24_1 C0 hL hi Cx hN IV hl hcn hsn tail)
  | 25, _ => exact lv_tableIn (off := 880) (tgt := 913) hx hb d33 (by decide) (by decide) rfl (by decide) (lw_c25_1 C0 hL hi Cx hN IV hl hcn hsn tail)
  | 26, _ => exact lv_tableIn (off := 903) (tgt := 936) hx hb d33 (by decide) (by decide) rfl (by decide) (lw_c26_1 C0 hL hi Cx hN IV hl hcn hsn tail)
  | 27, _ => exact lv_tableIn (off := 926) (tgt := 959) hx hb d33 (by decide) (by decide) rfl (by decide) (lw_c27_1 C0 hL hi Cx hN IV hl hcn hsn tail)
  | 28, _ => exact lv_tableIn (off := 949) (tgt := 982) hx hb d33 (by decide) (by decide) rfl (by decide) (lw_c28_1 C0 hL hi Cx hN IV hl hcn hsn tail)
  | 29, _ => exact lv_tableIn (off := 982) (tgt := 1015) hx hb d33 (by decide) (by decide) rfl (by decide) (lw_c29_1 C0 hL hi Cx hN IV hl hcn hsn tail)
  | 30, _ => exact lv_tableIn (off := 1005) (tgt := 1038) hx hb d33 (by decide) (by decide) rfl (by decide) (lw_c30_1 C0 hL hi Cx hN IV hl hcn hsn tail)
  | 31, _ => exact lv_tableIn (off := 1028) (tgt := 1061) hx hb d33 (by decide) (by decide) rfl (by decide) (lw_c31_1 C0 hL hi Cx hN IV hl hcn hsn tail)
  | 32, _ => exact lv_tableIn (off := 1061) (tgt := 1094) hx hb d33 (by decide) (by decide) rfl (by decide) (lw_c32_1 C0 hL hi Cx hN IV hl hcn hsn tail)
  | 33, _ => exact lv_tableIn (off := 1074) (tgt := 1107) hx hb d33 (by decide) (by decide) rfl (by decide) (lw_c33_1 C0 hL hi Cx hN IV hl hcn hsn tail)
  | 34, _ => exact lv_tableIn (off := 1087) (tgt := 1120) hx hb d33 (by decide) (by decide) rfl (by decide) (lw_c34_1 C0 hL hi Cx hN IV hl hcn hsn tail)
  | 35, _ => exact lv_tableIn (off := 1100) (tgt := 1133) hx hb d33 (by decide) (by decide) rfl (by decide) (lw_c35_1 C0 hL hi Cx hN IV hl hcn hsn tail)
  | 36, _ => exact lv_tableIn (off := 1113) (tgt := 1146) hx hb d33 (by decide) (by decide) rfl (by decide) (lw_c36_1 C0 hL hi Cx hN IV hl hcn hsn tail)
  | 37, _ => exact lv_tableIn (off := 1126) (tgt := 1159) hx hb d33 (by decide) (by decide) rfl (by decide) (lw_c37_1 C0 hL hi Cx hN IV hl hcn hsn tail)
  | 38, _ => exact lv_tableIn (off := 1159) (tgt := 1192) hx hb d33 (by decide) (by decide) rfl (by decide) (lw_c38_1 C0 hL hi Cx hN IV hl hcn hsn tail)
  | 39, _ => exact lv_tableIn (off := 1182) (tgt := 1215) hx hb d33 (by decide) (by decide) rfl (by decide) (lw_c39_1 C0 hL hi Cx hN IV hl hcn hsn tail)
  | 40, _ => exact lv_tableIn (off := 1231) (tgt := 1264) hx hb d33 (by decide) (by decide) rfl (by decide) (lw_c40_1 C0 hL hi Cx hN IV hl hcn hsn tail)
  | 41, _ => exact lv_tableIn (off := 1280) (tgt := 1313) hx hb d33 (by decide) (by decide) rfl (by decide) (lw_c41_1 C0 hL hi Cx hN IV hl hcn hsn tail)
  | 42, _ => exact lv_tableIn (off := 1329) (tgt := 1362) hx hb d33 (by decide) (by decide) rfl (by decide) (lw_c42_1 C0 hL hi Cx hN IV hl hcn hsn tail)
  | 43, _ => exact lv_tableIn (off := 1352) (tgt := 1385) hx hb d33 (by decide) (by decide) rfl (by decide) (lw_c43_1 C0 hL hi Cx hN IV hl hcn hsn tail)
  | 44, _ => exact lv_tableIn (off := 1375) (tgt := 1408) hx hb d33 (by decide) (by decide) rfl (by decide) (lw_c44_1 C0 hL hi Cx hN IV hl hcn hsn tail)
  | 45, _ => exact lv_tableIn (off := 1398) (tgt := 1431) hx hb d33 (by decide) (by decide) rfl (by decide) (lw_c45_1 C0 hL hi Cx hN IV hl hcn hsn tail)
  | 46, _ => exact lv_tableIn (off := 1431) (tgt := 1464) hx hb d33 (by decide) (by decide) rfl (by decide) (lw_c46_1 C0 hL hi Cx hN IV hl hcn hsn tail)
  | 47, _ => exact lv_tableIn (off := 1464) (tgt := 1497) hx hb d33 (by decide) (by decide) rfl (by decide) (lw_c47_1 C0 hL hi Cx hN IV hl hcn hsn tail)
  | 48, _ => exact lv_tableIn (off := 1487) (tgt := 1520) hx hb d33 (by decide) (by decide) rfl (by decide) (lw_c48_1 C0 hL hi Cx hN IV hl hcn hsn tail)
  | 49, _ => exact lv_tableIn (off := 1510) (tgt := 1543) hx hb d33 (by decide) (by decide) rfl (by decide) (lw_c49_1 C0 hL hi Cx hN IV hl hcn hsn tail)
  | j + 50, hj => exact lv_tableOut (tgt := 1566) hx hb d33 (Or.inr (by rw [nI_toInt (by omega)]; omega)) (by decide) (tail h1 h2 lw_M1 H locs (Or.inr rfl) rfl rfl IV)
theorem lw_loop {p : Program} {l : Launch} {e : Env} {s : State} {m : MethodId} {below : List Frame} {meth : Method} {c : Code} {b L : Nat} {xs : Nat → Int32} {D : va_G} {cy : Nat → ClassId} {st : Nat → Nat} {cn sn : Nat} (C0 : lw_At p s m meth c b L xs) (hL : L ≤ 3072) (Cx : rv_Cx p s m #[Value.ref b] c code R_law 4 lw_tbl D vwCl cy (lw_A s) st) (hN : rv_NWs rv_NW s) (hcn : cn ≤ 600000) (hsn : sn ≤ 7302250) : ∀ (n i : Nat), L + 6 - i < n → i ≤ L + 6 → ∀ (h1 h2 : rv_G) (T2 : List rv_E × List rv_C) (H : Heap) (locs : List Loc) (ls : Array Slot), lw_T2 T2 → lw_Inv D cy st s h1 h2 T2 H locs → lv_has ls 4 [(3, .int (nI i)), (2, .ref (h2.2.1 0)), (1, .ref (h1.2.1 0)), (0, .ref b)] → W p l e room_1 s m #[Value.ref b] below meth c H locs cn sn (lw_Z below #[Value.ref b] s) (F0 m 18 ls [])
  | 0, i, hn, _, _, _, _, _, _, _, _, _, _ => absurd hn (Nat.not_lt_zero _)
  | n + 1, i, hn, hi, h1, h2, T2, H, locs, ls, hT, IV, hl => by
    obtain ⟨hx, hb, -⟩ := id C0
    refine lw_head C0 hL hi IV.2.2.2.2.2 (lv_at hl 3 rfl) (lv_at hl 0 rfl) hcn hsn (fun hi2 => ?_)
    have tail : lw_Tail p l e s m below meth c b D cy st h1 h2 ls cn sn := by
      intro h1' h2' T2' H' locs' hT' a1 a2 IV'
      refine lv_iinc (v := nI (i + 6)) (lv' := [(3, .int (nI (i + 6))), (2, .ref (h2.2.1 0)), (1, .ref (h1.2.1 0)), (0, .ref b)]) hx hb (lw_dt (1566, .iinc 3 6, 3) (by simp)) hl (k := 0) rfl (by rw [show Int32.ofInt 6 = nI 6 from by decide, nI_add]) (by decide) rfl (fun ls' hl' => ?_)
      refine lv_goto (tgt := 18) hx hb (lw_dt (1569, .goto (-1551), 3) (by simp)) (by decide) ?_
      exact lw_loop C0 hL Cx hN hcn hsn n (i + 6) (by omega) (by omega) h1' h2' T2' H' locs' ls' hT' IV' (by rw [a1, a2]; exact hl')
    rcases hT with hT | hT
    · subst hT
      exact lw_body0 C0 hL hi2 Cx hN IV hl hcn hsn tail
    · subst hT
      exact lw_body1 C0 hL hi2 Cx hN IV hl hcn hsn tail
