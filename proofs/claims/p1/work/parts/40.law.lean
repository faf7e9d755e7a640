theorem lw_nw : ∀ q ∈ rv_NW, Jvm.Cond.methodLinkNest q.1 q.2.1 q.2.2.1 q.2.2.2 ∈ lw_tbl := by decide +kernel
theorem lw_inst0 : Jvm.Cond.instantiable RX0 3 ∈ rv_tbl := (rv_mem2 (i := 18) (by decide +kernel) rfl)
theorem lw_inst1 : Jvm.Cond.instantiable RX1 2 ∈ rv_tbl := (rv_mem1 (i := 97) (by decide +kernel) rfl)
theorem lw_inst2 : Jvm.Cond.instantiable RX2 6 ∈ rv_tbl := (rv_mem2 (i := 80) (by decide +kernel) rfl)
theorem lw_inst3 : Jvm.Cond.instantiable RX3 6 ∈ rv_tbl := (rv_mem1 (i := 30) (by decide +kernel) rfl)
theorem lw_inst4 : Jvm.Cond.instantiable RX4 18 ∈ rv_tbl := (rv_mem1 (i := 91) (by decide +kernel) rfl)
theorem lw_inst5 : Jvm.Cond.instantiable RX5 10 ∈ rv_tbl := (rv_mem1 (i := 85) (by decide +kernel) rfl)
theorem lw_inst6 : Jvm.Cond.instantiable RX6 5 ∈ rv_tbl := (rv_mem1 (i := 36) (by decide +kernel) rfl)
theorem lw_inst7 : Jvm.Cond.instantiable RX7 7 ∈ rv_tbl := (rv_mem2 (i := 109) (by decide +kernel) rfl)
theorem lw_inst8 : Jvm.Cond.instantiable RX8 11 ∈ rv_tbl := (rv_mem2 (i := 36) (by decide +kernel) rfl)
theorem lw_inst9 : Jvm.Cond.instantiable RX9 10 ∈ rv_tbl := (rv_mem1 (i := 22) (by decide +kernel) rfl)
theorem lw_inst10 : Jvm.Cond.instantiable RX10 70 ∈ rv_tbl := (rv_mem5 (i := 160) (by decide +kernel) rfl)
theorem lw_known {s : State} {args : Array Value} (hts : ∀ w ∈ lw_tbl, w.before args s = true) : ∃ (dC : Nat → ClassId) (dI : Nat → Nat → Nat), ∀ (k : Nat) (q : vw_C), vwCl[k]? = some q → u_Kn s q.1 q.2.1 q.2.2 (dC k) (dI k) := by
  have key : ∀ k : Nat, ∃ z : ClassId × (Nat → Nat), ∀ q : vw_C, vwCl[k]? = some q → u_Kn s q.1 q.2.1 q.2.2 z.1 z.2 := by
    intro k
    match k with
    | 0 =>
      obtain ⟨cC, iS, hk⟩ := u_known (C := RX0) (T := TX0) (N := 3) (n := 3) hts (fun w h => lw_in (rv_in0 w h)) (hts _ (lw_in lw_inst0))
      exact ⟨(cC, iS), fun q hq => by cases hq; exact hk⟩
    | 1 =>
      obtain ⟨cC, iS, hk⟩ := u_known (C := RX1) (T := TX1) (N := 2) (n := 2) hts (fun w h => lw_in (rv_in1 w h)) (hts _ (lw_in lw_inst1))
      exact ⟨(cC, iS), fun q hq => by cases hq; exact hk⟩
    | 2 =>
      obtain ⟨cC, iS, hk⟩ := u_known (C := RX2) (T := TX2) (N := 6) (n := 6) hts (fun w h => lw_in (rv_in2 w h)) (hts _ (lw_in lw_inst2))
      exact ⟨(cC, iS), fun q hq => by cases hq; exact hk⟩
    | 3 =>
      obtain ⟨cC, iS, hk⟩ := u_known (C := RX3) (T := TX3) (N := 6) (n := 6) hts (fun w h => lw_in (rv_in3 w h)) (hts _ (lw_in lw_inst3))
      exact ⟨(cC, iS), fun q hq => by cases hq; exact hk⟩
    | 4 =>
      obtain ⟨cC, iS, hk⟩ := u_known (C := RX4) (T := TX4) (N := 18) (n := 18) hts (fun w h => lw_in (rv_in4 w h)) (hts _ (lw_in lw_inst4))
      exact ⟨(cC, iS), fun q hq => by cases hq; exact hk⟩
    | 5 =>
      obtain ⟨cC, iS, hk⟩ := u_known (C := RX5) (T := TX5) (N := 10) (n := 10) hts (fun w h => lw_in (rv_in5 w h)) (hts _ (lw_in lw_inst5))
      exact ⟨(cC, iS), fun q hq => by cases hq; exact hk⟩
    | 6 =>
      obtain ⟨cC, iS, hk⟩ := u_known (C := RX6) (T := TX6) (N := 5) (n := 5) hts (fun w h => lw_in (rv_in6 w h)) (hts _ (lw_in lw_inst6))
      exact ⟨(cC, iS), fun q hq => by cases hq; exact hk⟩
    | 7 =>
      obtain ⟨cC, iS, hk⟩ := u_known (C := RX7) (T := TX7) (N := 7) (n := 7) hts (fun w h => lw_in (rv_in7 w h)) (hts _ (lw_in lw_inst7))
      exact ⟨(cC, iS), fun q hq => by cases hq; exact hk⟩
    | 8 =>
      obtain ⟨cC, iS, hk⟩ := u_known (C := RX8) (T := TX8) (N := 11) (n := 11) hts (fun w h => lw_in (rv_in8 w h)) (hts _ (lw_in lw_inst8))
      exact ⟨(cC, iS), fun q hq => by cases hq; exact hk⟩
    | 9 =>
      obtain ⟨cC, iS, hk⟩ := u_known (C := RX9) (T := TX9) (N := 10) (n := 10) hts (fun w h => lw_in (rv_in9 w h)) (hts _ (lw_in lw_inst9))
      exact ⟨(cC, iS), fun q hq => by cases hq; exact hk⟩
    | 10 =>
      obtain ⟨cC, iS, hk⟩ := u_known (C := RX10) (T := TX10) (N := 70) (n := 70) hts (fun w h => lw_in (rv_in10 w h)) (hts _ (lw_in lw_inst10))
      exact ⟨(cC, iS), fun q hq => by cases hq; exact hk⟩
    | k + 11 => exact ⟨(0, fun _ => 0), fun q hq => by cases hq⟩
  obtain ⟨f, hf⟩ := Classical.axiomOfChoice key
  exact ⟨fun k => (f k).1, fun k => (f k).2, hf⟩
def lw_F1 : List rv_V := [(3, 0), (3, 0), (3, 0), (3, 0), (3, 0), (3, 0), (3, 0), (3, 0), (3, 0), (0, 0)]
def lw_F2 : List rv_V := [(3, 0), (3, 0), (0, 0), (0, 0), (0, 0), (0, 0), (0, 0), (0, 0), (0, 0), (0, 0), (1, 0), (3, 0), (3, 0), (3, 0), (3, 0), (3, 0), (3, 0), (3, 0), (3, 0), (3, 0), (3, 0), (3, 0), (3, 0), (3, 0), (3, 0), (3, 0), (3, 0), (3, 0), (3, 0), (3, 0), (3, 0), (3, 0), (3, 0), (3, 0), (3, 0), (3, 0), (0, 0), (0, 0), (0, 0), (0, 0), (0, 0), (0, 0), (0, 0), (0, 0), (0, 0), (0, 0), (3, 0), (3, 0), (0, 0), (0, 0), (3, 0), (3, 0), (3, 0), (3, 0), (3, 0), (0, 0), (0, 0), (0, 0), (3, 0), (3, 0), (3, 0), (3, 0), (3, 0), (3, 0), (3, 0), (0, 0), (0, 0), (0, 0), (3, 0), (3, 0)]
theorem lw_df1 : ∀ j, j < 10 → defaultValue (tyX9 j) = vp_V (lw_F1.map (rv_v (lw_g0 0))) j := by decide +kernel
theorem lw_df2 : ∀ j, j < 70 → defaultValue (tyX10 j) = vp_V (lw_F2.map (rv_v (lw_g0 0))) j := by decide +kernel
theorem lw_cl7 : Jvm.Cond.classLink R_law 7 RX9 ∈ rv_tbl := (rv_mem1 (i := 21) (by decide +kernel) rfl)
theorem lw_cl10 : Jvm.Cond.classLink R_law 10 RX10 ∈ rv_tbl := (rv_mem5 (i := 159) (by decide +kernel) rfl)
theorem lw_ini9 : Jvm.Cond.initialized RX9 ∈ rv_tbl := (rv_mem1 (i := 1) (by decide +kernel) rfl)
theorem lw_ini10 : Jvm.Cond.initialized RX10 ∈ rv_tbl := (rv_mem1 (i := 11) (by decide +kernel) rfl)
theorem lw_ds : lw_Dec [(0, .new 7, 3), (3, .dup, 1), (4, .invokespecial 9, 3), (7, .astore_n 1, 1), (8, .new 10, 3), (11, .dup, 1), (12, .invokespecial 12, 3), (15, .astore_n 2, 1), (16, .iconst 0, 1), (17, .istore_n 3, 1), (18, .iload_n 3, 1), (19, .aload_n 0, 1), (20, .arraylength, 1), (21, .bipush 6, 2), (23, .isub, 1), (24, .if_icmp .gt 1548, 3), (27, .aload_n 0, 1), (28, .iload_n 3, 1), (29, .iaload, 1), (30, .bipush 63, 2), (32, .iand, 1), (33, .tableswitch 1533 0 49 #[215, 278, 301, 314, 337, 370, 403, 436, 459, 472, 515, 538, 551, 564, 577, 600, 623, 656, 689, 732, 755, 778, 811, 834, 857, 880, 903, 926, 949, 982, 1005, 1028, 1061, 1074, 1087, 1100, 1113, 1126, 1159, 1182, 1231, 1280, 1329, 1352, 1375, 1398, 1431, 1464, 1487, 1510], 215)] := by unfold lw_Dec; decide +kernel
set_option maxRecDepth 100000 in
set_option maxHeartbeats 4000000 in
theorem lw_body {p : Program} {l : Launch} {e : Env} {s : State} {m : MethodId} {below : List Frame} {meth : Method} {c : Code} {b : Nat} {xs : Nat → Int32} {D : va_G} {cy : Nat → ClassId} {h1 h2 : rv_G} {H : Heap} {locs : List Loc} {ls : Array Slot} (C0 : lw_At p s m meth c b 6 xs) (Cx : rv_Cx p s m #[Value.ref b] c code R_law 4 lw_tbl D vwCl cy (lw_A s)) (hN : rv_NWs rv_NW s) (hB1 : rv_bd h1 0 lw_B1) (hx1 : rv_x h1 lw_X1) (hB2 : rv_bd h2 0 lw_B2) (hx2 : rv_x h2 lw_X2) (hP : va_P D vwCl (rv_w cy h1 lw_X1 ++ rv_w cy h2 lw_X2) H) (hD : va_D (lw_A s) (rv_w cy h1 lw_X1 ++ rv_w cy h2 lw_X2)) (hS : va_S (lw_A s) s.heap H locs) (hl : lv_has ls 4 [(3, .int 0), (2, .ref (h2.2.1 0)), (1, .ref (h1.2.1 0)), (0, .ref b)]) : W p l e room_1 s m #[Value.ref b] below meth c H locs 94 14010 (lw_Z below #[Value.ref b] s) (F0 m 27 ls []) := by
  obtain ⟨hx, hb, hr, hml, hown, hts, hX, hbl, hlocks, hgv⟩ := id C0
  have hbA : ¬ lw_A s b := Nat.not_le.mpr hbl
  have dd : ∀ {n : Nat} {q : Nat × Instr × Nat}, ([(0, .new 7, 3), (3, .dup, 1), (4, .invokespecial 9, 3), (7, .astore_n 1, 1), (8, .new 10, 3), (11, .dup, 1), (12, .invokespecial 12, 3), (15, .astore_n 2, 1), (16, .iconst 0, 1), (17, .istore_n 3, 1), (18, .iload_n 3, 1), (19, .aload_n 0, 1), (20, .arraylength, 1), (21, .bipush 6, 2), (23, .isub, 1), (24, .if_icmp .gt 1548, 3), (27, .aload_n 0, 1), (28, .iload_n 3, 1), (29, .iaload, 1), (30, .bipush 63, 2), (32, .iand, 1), (33, .tableswitch 1533 0 49 #[215, 278, 301, 314, 337, 370, 403, 436, 459, 472, 515, 538, 551, 564, 577, 600, 623, 656, 689, 732, 755, 778, 811, 834, 857, 880, 903, 926, 949, 982, 1005, 1028, 1061, 1074, 1087, 1100, 1113, 1126, 1159, 1182, 1231, 1280, 1329, 1352, 1375, 1398, 1431, 1464, 1487, 1510], 215)] : List (Nat × Instr × Nat))[n]? = some q → decode code q.1 = .ok (q.2.1, q.2.2) := fun h => lw_ds _ (List.mem_of_getElem? h)
  refine lv_aload_n hx hb (dd (n := 16) (q := (27, .aload_n 0, 1)) rfl) rfl (lv_at hl 3 rfl) ?_
  refine lv_iload_n hx hb (dd (n := 17) (q := (28, .iload_n 3, 1)) rfl) rfl (lv_at hl 0 rfl) ?_
  refine va_sld hx hb hX hbl hbA hS (vp_in_nI (n := 0) (N := 6) (by decide) (by decide)) (dd (n := 18) (q := (29, .iaload, 1)) rfl) ?_
  refine lv_bipush (v := 63) hx hb (dd (n := 19) (q := (30, .bipush 63, 2)) rfl) (by decide) ?_
  refine lv_iand hx hb (dd (n := 20) (q := (32, .iand, 1)) rfl) ?_
  obtain ⟨j, hj, ej⟩ := pk_andE (xs (nI 0).toNatClampNeg) (m := 63) 6 (by decide)
  have ej : xs (0 : Int32).toNatClampNeg &&& 63 = nI j := ej
  show W p l e room_1 s m #[Value.ref b] below meth c H locs 94 14010 (lw_Z below #[Value.ref b] s) (F0 m 33 ls [.int (xs (0 : Int32).toNatClampNeg &&& 63)])
  rw [ej]
  have d33 := (dd (n := 21) (q := (33, .tableswitch 1533 0 49 #[215, 278, 301, 314, 337, 370, 403, 436, 459, 472, 515, 538, 551, 564, 577, 600, 623, 656, 689, 732, 755, 778, 811, 834, 857, 880, 903, 926, 949, 982, 1005, 1028, 1061, 1074, 1087, 1100, 1113, 1126, 1159, 1182, 1231, 1280, 1329, 1352, 1375, 1398, 1431, 1464, 1487, 1510], 215)) rfl)
  match j, hj with
  | 0, _ => exact lv_tableIn (off := 215) (tgt := 248) hx hb d33 (by decide) (by decide) rfl (by decide) (lw_c0 C0 Cx hN hB1 hx1 hB2 hx2 hP hD hS hl)
  | 1, _ => exact lv_tableIn (off := 278) (tgt := 311) hx hb d33 (by decide) (by decide) rfl (by decide) (lw_c1 C0 Cx hN hB1 hx1 hB2 hx2 hP hD hS hl)
  | 2, _ => exact lv_tableIn (off := 301) (tgt := 334) hx hb d33 (by decide) (by decide) rfl (by decide) (lw_c2 C0 Cx hN hB1 hx1 hB2 hx2 hP hD hS hl)
  | 3, _ => exact lv_tableIn (off := 314) (tgt := 347) hx hb d33 (by decide) (by decide) rfl (by decide) (lw_c3 C0 Cx hN hB1 hx1 hB2 hx2 hP hD hS hl)
  | 4, _ => exact lv_tableIn (off := 337) (tgt := 370) hx hb d33 (by decide) (by decide) rfl (by decide) (lw_c4 C0 Cx hN hB1 hx1 hB2 hx2 hP hD hS hl)
  | 5, _ => exact lv_tableIn (off := 370) (tgt := 403) hx hb d33 (by decide) (by decide) rfl (by decide) (lw_c5 C0 Cx hN hB1 hx1 hB2 hx2 hP hD hS hl)
  | 6, _ => exact lv_tableIn (off := 403) (tgt := 436) hx hb d33 (by decide) (by decide) rfl (by decide) (lw_c6 C0 Cx hN hB1 hx1 hB2 hx2 hP hD hS hl)
  | 7, _ => exact lv_tableIn (off := 436) (tgt := 469) hx hb d33 (by decide) (by decide) rfl (by decide) (lw_c7 C0 Cx hN hB1 hx1 hB2 hx2 hP hD hS hl)
  | 8, _ => exact lv_tableIn (off := 459) (tgt := 492) hx hb d33 (by decide) (by decide) rfl (by decide) (lw_c8 C0 Cx hN hB1 hx1 hB2 hx2 hP hD hS hl)
  | 9, _ => exact lv_tableIn (off := 472) (tgt := 505) hx hb d33 (by decide) (by decide) rfl (by decide) (lw_c9 C0 Cx hN hB1 hx1 hB2 hx2 hP hD hS hl)
  | 10, _ => exact lv_tableIn (off := 515) (tgt := 548) hx hb d33 (by decide) (by decide) rfl (by decide) (lw_c10 C0 Cx hN hB1 hx1 hB2 hx2 hP hD hS hl)
  | 11, _ => exact lv_tableIn (off := 538) (tgt := 571) hx hb d33 (by decide) (by decide) rfl (by decide) (lw_c11 C0 Cx hN hB1 hx1 hB2 hx2 hP hD hS hl)
  | 12, _ => exact lv_tableIn (off := 551) (tgt := 584) hx hb d33 (by decide) (by decide) rfl (by decide) (lw_c12 C0 Cx hN hB1 hx1 hB2 hx2 hP hD hS hl)
  | 13, _ => exact lv_tableIn (off := 564) (tgt := 597) hx hb d33 (by decide) (by decide) rfl (by decide) (lw_c13 C0 Cx hN hB1 hx1 hB2 hx2 hP hD hS hl)
  | 14, _ => exact lv_tableIn (off := 577) (tgt := 610) hx hb d33 (by decide) (by decide) rfl (by decide) (lw_c14 C0 Cx hN hB1 hx1 hB2 hx2 hP hD hS hl)
  | 15, _ => exact lv_tableIn (off := 600) (tgt := 633) hx hb d33 (by decide) (by decide) rfl (by decide) (lw_c15 C0 Cx hN hB1 hx1 hB2 hx2 hP hD hS hl)
  | 16, _ => exact lv_tableIn (off := 623) (tgt := 656) hx hb d33 (by decide) (by decide) rfl (by decide) (lw_c16 C0 Cx hN hB1 hx1 hB2 hx2 hP hD hS hl)
  | 17, _ => exact lv_tableIn (off := 656) (tgt := 689) hx hb d33 (by decide) (by decide) rfl (by decide) (lw_c17 C0 Cx hN hB1 hx1 hB2 hx2 hP hD hS hl)
  | 18, _ => exact lv_tableIn (off := 689) (tgt := 722) hx hb d33 (by decide) (by decide) rfl (by decide) (lw_c18 C0 Cx hN hB1 hx1 hB2 hx2 hP hD hS hl)
  | 19, _ => exact lv_tableIn (off := 732) (tgt := 765) hx hb d33 (by decide) (by decide) rfl (by decide) (lw_c19 C0 Cx hN hB1 hx1 hB2 hx2 hP hD hS hl)
  | 20, _ => exact lv_tableIn (off := 755) (tgt := 788) hx hb d33 (by decide) (by decide) rfl (by decide) (lw_c20 C0 Cx hN hB1 hx1 hB2 hx2 hP hD hS hl)
  | 21, _ => exact lv_tableIn (off := 778) (tgt := 811) hx hb d33 (by decide) (by decide) rfl (by decide) (lw_c21 C0 Cx hN hB1 hx1 hB2 hx2 hP hD hS hl)
  | 22, _ => exact lv_tableIn (off := 811) (tgt := 844) hx hb d33 (by decide) (by decide) rfl (by decide) (lw_c22 C0 Cx hN hB1 hx1 hB2 hx2 hP hD hS hl)
  | 23, _ => exact lv_tableIn (off := 834) (tgt := 867) hx hb d33 (by decide) (by decide) rfl (by decide) (lw_c23 C0 Cx hN hB1 hx1 hB2 hx2 hP hD hS hl)
  | 24, _ => exact lv_tableIn (off := 857) (tgt := 890) hx hb d33 (by decide) (by decide) rfl (by decide) (lw_c24 C0 Cx hN hB1 hx1 hB2 hx2 hP hD hS hl)
  | 25, _ => exact lv_tableIn (off := 880) (tgt := 913) hx hb d33 (by decide) (by decide) rfl (by decide) (lw_c25 C0 Cx hN hB1 hx1 hB2 hx2 hP hD hS hl)
  | 26, _ => exact lv_tableIn (off := 903) (tgt := 936) hx hb d33 (by decide) (by decide) rfl (by decide) (lw_c26 C0 Cx hN hB1 hx1 hB2 hx2 hP hD hS hl)
  | 27, _ => exact lv_tableIn (off := 926) (tgt := 959) hx hb d33 (by decide) (by decide) rfl (by decide) (lw_c27 C0 Cx hN hB1 hx1 hB2 hx2 hP hD hS hl)
  | 28, _ => exact lv_tableIn (off := 949) (tgt := 982) hx hb d33 (by decide) (by decide) rfl (by decide) (lw_c28 C0 Cx hN hB1 hx1 hB2 hx2 hP hD hS hl)
  | 29, _ => exact lv_tableIn (off := 982) (tgt := 1015) hx hb d33 (by decide) (by decide) rfl (by decide) (lw_c29 C0 Cx hN hB1 hx1 hB2 hx2 hP hD hS hl)
  | 30, _ => exact lv_tableIn (off := 1005) (tgt := 1038) hx hb d33 (by decide) (by decide) rfl (by decide) (lw_c30 C0 Cx hN hB1 hx1 hB2 hx2 hP hD hS hl)
  | 31, _ => exact lv_tableIn (off := 1028) (tgt := 1061) hx hb d33 (by decide) (by decide) rfl (by decide) (lw_c31 C0 Cx hN hB1 hx1 hB2 hx2 hP hD hS hl)
  | 32, _ => exact lv_tableIn (off := 1061) (tgt := 1094) hx hb d33 (by decide) (by decide) rfl (by decide) (lw_c32 C0 Cx hN hB1 hx1 hB2 hx2 hP hD hS hl)
  | 33, _ => exact lv_tableIn (off := 1074) (tgt := 1107) hx hb d33 (by decide) (by decide) rfl (by decide) (lw_c33 C0 Cx hN hB1 hx1 hB2 hx2 hP hD hS hl)
  | 34, _ => exact lv_tableIn (off := 1087) (tgt := 1120) hx hb d33 (by decide) (by decide) rfl (by decide) (lw_c34 C0 Cx hN hB1 hx1 hB2 hx2 hP hD hS hl)
  | 35, _ => exact lv_tableIn (off := 1100) (tgt := 1133) hx hb d33 (by decide) (by decide) rfl (by decide) (lw_c35 C0 Cx hN hB1 hx1 hB2 hx2 hP hD hS hl)
  | 36, _ => exact lv_tableIn (off := 1113) (tgt := 1146) hx hb d33 (by decide) (by decide) rfl (by decide) (lw_c36 C0 Cx hN hB1 hx1 hB2 hx2 hP hD hS hl)
  | 37, _ => exact lv_tableIn (off := 1126) (tgt := 1159) hx hb d33 (by decide) (by decide) rfl (by decide) (lw_c37 C0 Cx hN hB1 hx1 hB2 hx2 hP hD hS hl)
  | 38, _ => exact lv_tableIn (off := 1159) (tgt := 1192) hx hb d33 (by decide) (by decide) rfl (by decide) (lw_c38 C0 Cx hN hB1 hx1 hB2 hx2 hP hD hS hl)
  | 39, _ => exact lv_tableIn (off := 1182) (tgt := 1215) hx hb d33 (by decide) (by decide) rfl (by decide) (lw_c39 C0 Cx hN hB1 hx1 hB2 hx2 hP hD hS hl)
  | 40, _ => exact lv_tableIn (off := 1231) (tgt := 1264) hx hb d33 (by decide) (by decide) rfl (by decide) (lw_c40 C0 Cx hN hB1 hx1 hB2 hx2 hP hD hS hl)
  | 41, _ => exact lv_tableIn (off := 1280) (tgt := 1313) hx hb d33 (by decide) (by decide) rfl (by decide) (lw_c41 C0 Cx hN hB1 hx1 hB2 hx2 hP hD hS hl)
  | 42, _ => exact lv_tableIn (off := 1329) (tgt := 1362) hx hb d33 (by decide) (by decide) rfl (by decide) (lw_c42 C0 Cx hN hB1 hx1 hB2 hx2 hP hD hS hl)
  | 43, _ => exact lv_tableIn (off := 1352) (tgt := 1385) hx hb d33 (by decide) (by decide) rfl (by decide) (lw_c43 C0 Cx hN hB1 hx1 hB2 hx2 hP hD hS hl)
  | 44, _ => exact lv_tableIn (off := 1375) (tgt := 1408) hx hb d33 (by decide) (by decide) rfl (by decide) (lw_c44 C0 Cx hN hB1 hx1 hB2 hx2 hP hD hS hl)
  | 45, _ => exact lv_tableIn (off := 1398) (tgt := 1431) hx hb d33 (by decide) (by decide) rfl (by decide) (lw_c45 C0 Cx hN hB1 hx1 hB2 hx2 hP hD hS hl)
  | 46, _ => exact lv_tableIn (off := 1431) (tgt := 1464) hx hb d33 (by decide) (by decide) rfl (by decide) (lw_c46 C0 Cx hN hB1 hx1 hB2 hx2 hP hD hS hl)
  | 47, _ => exact lv_tableIn (off := 1464) (tgt := 1497) hx hb d33 (by decide) (by decide) rfl (by decide) (lw_c47 C0 Cx hN hB1 hx1 hB2 hx2 hP hD hS hl)
  | 48, _ => exact lv_tableIn (off := 1487) (tgt := 1520) hx hb d33 (by decide) (by decide) rfl (by decide) (lw_c48 C0 Cx hN hB1 hx1 hB2 hx2 hP hD hS hl)
  | 49, _ => exact lv_tableIn (off := 1510) (tgt := 1543) hx hb d33 (by decide) (by decide) rfl (by decide) (lw_c49 C0 Cx hN hB1 hx1 hB2 hx2 hP hD hS hl)
  | j + 50, hj => exact lv_tableOut (tgt := 1566) hx hb d33 (Or.inr (by rw [nI_toInt (by omega)]; omega)) (by decide) (lw_tail C0 hl hS)
