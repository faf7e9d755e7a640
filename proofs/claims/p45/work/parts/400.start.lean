set_option maxRecDepth 100000 in
set_option maxHeartbeats 4000000 in
theorem whole_start {p : Program} {e : Env} {s : State} {m : MethodId} {below : List Frame} {meth : Method} {c : Code} (l : Launch) {b L : Nat} {xs : Nat → Int32} (hL : L ≤ 3072) (C0 : lw_At p s m meth c b L xs) : W p l e room_1 s m #[Value.ref b] below meth c s.heap [] 0 0 (lw_Z below #[Value.ref b] s) (entryFrame m ([Value.ref b] : List Value).toArray 4) := by
  obtain ⟨hx, hb, hr, hml, hown, hts, hX, hbl, hlocks, hgv⟩ := id C0
  have dd : ∀ {n : Nat} {q : Nat × Instr × Nat}, ([(0, .new 7, 3), (3, .dup, 1), (4, .invokespecial 9, 3), (7, .astore_n 1, 1), (8, .new 10, 3), (11, .dup, 1), (12, .invokespecial 12, 3), (15, .astore_n 2, 1), (16, .iconst 0, 1), (17, .istore_n 3, 1), (18, .iload_n 3, 1), (19, .aload_n 0, 1), (20, .arraylength, 1), (21, .bipush 6, 2), (23, .isub, 1), (24, .if_icmp .gt 1548, 3), (27, .aload_n 0, 1), (28, .iload_n 3, 1), (29, .iaload, 1), (30, .bipush 63, 2), (32, .iand, 1), (33, .tableswitch 1533 0 49 #[215, 278, 301, 314, 337, 370, 403, 436, 459, 472, 515, 538, 551, 564, 577, 600, 623, 656, 689, 732, 755, 778, 811, 834, 857, 880, 903, 926, 949, 982, 1005, 1028, 1061, 1074, 1087, 1100, 1113, 1126, 1159, 1182, 1231, 1280, 1329, 1352, 1375, 1398, 1431, 1464, 1487, 1510], 215)] : List (Nat × Instr × Nat))[n]? = some q → decode code q.1 = .ok (q.2.1, q.2.2) := fun h => lw_ds _ (List.mem_of_getElem? h)
  obtain ⟨dC, dI, hKc⟩ := lw_known hts
  obtain ⟨cB, aB, nB⟩ := lw_arr (t := .byte) (hts (Jvm.Cond.arrayClass .byte) (lw_in (rv_mem1 (i := 60) (by decide +kernel) rfl)))
  obtain ⟨cI, aI, nI2⟩ := lw_arr (t := .int) (hts (Jvm.Cond.arrayClass .int) (lw_in (rv_mem1 (i := 83) (by decide +kernel) rfl)))
  obtain ⟨cJ, aJ, nJ⟩ := lw_arr (t := .long) (hts (Jvm.Cond.arrayClass .long) (lw_in (rv_mem2 (i := 106) (by decide +kernel) rfl)))
  obtain ⟨cZ, aZ, nZ⟩ := lw_arr (t := .boolean) (hts (Jvm.Cond.arrayClass .boolean) (lw_in (rv_mem2 (i := 107) (by decide +kernel) rfl)))
  obtain ⟨cy, hcy⟩ : ∃ cy : Nat → ClassId, cy = fun k => match k with
    | 0 => cB
    | 1 => cI
    | 2 => cJ
    | _ => cZ := ⟨_, rfl⟩
  have hK : va_K (dC, dI) vwCl (rv_tys cy) s := by
    refine ⟨hKc, fun k q hq => ?_⟩
    subst hcy
    match k, hq with
    | 0, hq => cases hq; exact ⟨aB, nB⟩
    | 1, hq => cases hq; exact ⟨aI, nI2⟩
    | 2, hq => cases hq; exact ⟨aJ, nJ⟩
    | 3, hq => cases hq; exact ⟨aZ, nZ⟩
    | k + 4, hq => cases hq
  obtain ⟨st, hSt⟩ := lw_str cy C0
  have hN : rv_NWs rv_NW s := fun q hq => va_Nw.of rfl (hts _ (lw_nw q hq))
  have hA : ∀ q : Nat, s.heap.size ≤ q → lw_A s q := fun _ h => h
  have Cx : rv_Cx p s m #[Value.ref b] c code R_law 4 lw_tbl (dC, dI) vwCl cy (lw_A s) st := ⟨hx, hb, hml, hown, hts, hK, hA, hSt⟩
  have hS0 : va_S (lw_A s) s.heap s.heap [] := va_S.rf
  have hP0 : va_P (dC, dI) vwCl [] s.heap := fun k q h => by simp at h
  have hD0 : va_D (lw_A s) [] := ⟨fun i j p q h => by simp at h, fun k q h => by simp at h⟩
  have hl := lv_entry ([.ref b]) (n := 4) (Nat.le_of_ble_eq_true rfl)
  rw [lg_entry_eq]
  generalize (lg_sl ([.ref b]) ++ List.replicate (4 - (lg_sl ([.ref b])).length) Slot.unset).toArray = ls at hl ⊢
  have hl : lv_has ls 4 [(0, .ref b)] := hl
  refine va_new (D := (dC, dI)) (ci := 9) (fs := lw_F1.map (rv_v (lw_g0 0 (fun _ => 0)))) (C := RX9) (T := TX9) (N := 10) hx hb hts (fun w h => lw_in (rv_in9 w h)) tyX9 tyX9_ok hown (hts _ (lw_in lw_cl7)) (hts _ (lw_in lw_inst9)) (hts _ (lw_in lw_ini9)) hK hP0 hD0 hS0 hA rfl lw_df1 (Nat.le_of_ble_eq_true rfl) (Nat.le_of_ble_eq_true rfl) (dd (n := 0) (q := (0, .new 7, 3)) rfl) (fun q0 H hP hD hS => ?_)
  refine lv_dup hx hb (dd (n := 1) (q := (3, .dup, 1)) rfl) rfl ?_
  have w1 : rv_w cy (lw_g0 q0 st) kk_31.2.2.1 = [(q0, .inr (9, lw_F1.map (rv_v (lw_g0 0 (fun _ => 0)))))] := rfl
  have p1 : rv_pre (lw_g0 q0 st) kk_31 := by
    refine ⟨fun i b3 hb3 => ?_, fun k a hk => ?_⟩
    · match i, hb3 with
      | 0, hb3 => cases hb3; exact ⟨Int.le_refl _, Int.le_refl _, rfl, fun q hq => by cases hq⟩
      | i + 1, hb3 => cases hb3
    · match k, hk with
      | 0, hk => cases hk
      | k + 1, hk => cases hk
  refine lw_cI (K := kk_31) (g := lw_g0 q0 st) (wr := []) (rest := [.ref q0]) Cx hN (mm_31 l (dC, dI) cy) rv_yX9_init rv_iX9_init rfl rv_lL_9 (dd (n := 2) (q := (4, .invokespecial 9, 3)) rfl) ⟨by decide, by decide⟩ rfl rfl rfl rfl hl.1 rfl p1 (by rw [w1]; exact hP) (by rw [w1]; exact hD) hS (Nat.le_of_ble_eq_true rfl) (Nat.le_of_ble_eq_true rfl) (Nat.le_of_ble_eq_true rfl) (fun o1 ho1 u1 H locs hq1 hP hD hS => ?_)
  obtain ⟨h1, a1, a2, a3, a4, a5, a6⟩ := lw_s1 _ u1 o1 ho1 p1.1 hq1
  have ha1 : h1.2.1 0 = q0 := a3.trans (hq1.2.1 0 (by decide))
  have hg1 : h1.2.2.2 = st := a4.trans hq1.2.2.1
  have hP := a6.P hP
  have hD := a6.D hD
  rw [List.nil_append] at hP hD
  rw [lw_no1 o1 ho1]
  show W p l e room_1 s m #[Value.ref b] below meth c H locs 50 6645 (lw_Z below #[Value.ref b] s) (F0 m 7 ls [.ref q0])
  rw [← ha1]
  refine lv_astore_n (lv' := [(1, .ref (h1.2.1 0)), (0, .ref b)]) hx hb (dd (n := 3) (q := (7, .astore_n 1, 1)) rfl) rfl hl (by decide) rfl (fun ls hl => ?_)
  refine va_new (D := (dC, dI)) (ci := 10) (fs := lw_F2.map (rv_v (lw_g0 0 (fun _ => 0)))) (C := RX10) (T := TX10) (N := 70) hx hb hts (fun w h => lw_in (rv_in10 w h)) tyX10 tyX10_ok hown (hts _ (lw_in lw_cl10)) (hts _ (lw_in lw_inst10)) (hts _ (lw_in lw_ini10)) hK hP hD hS hA rfl lw_df2 (Nat.le_of_ble_eq_true rfl) (Nat.le_of_ble_eq_true rfl) (dd (n := 4) (q := (8, .new 10, 3)) rfl) (fun q1 H hP hD hS => ?_)
  refine lv_dup hx hb (dd (n := 5) (q := (11, .dup, 1)) rfl) rfl ?_
  have w2 : rv_w cy (lw_g0 q1 st) kk_35.2.2.1 = [(q1, .inr (10, lw_F2.map (rv_v (lw_g0 0 (fun _ => 0)))))] := rfl
  have p2 : rv_pre (lw_g0 q1 st) kk_35 := by
    refine ⟨fun i b3 hb3 => ?_, fun k a hk => ?_⟩
    · match i, hb3 with
      | 0, hb3 => cases hb3; exact ⟨Int.le_refl _, Int.le_refl _, rfl, fun q hq => by cases hq⟩
      | i + 1, hb3 => cases hb3
    · match k, hk with
      | 0, hk => cases hk
      | k + 1, hk => cases hk
  have P2 := lw_swapP hP
  have D2 := lw_swapD hD
  rw [← w2] at P2 D2
  refine lw_cI (K := kk_35) (g := lw_g0 q1 st) (wr := rv_w cy h1 lw_Xc) (rest := [.ref q1]) Cx hN (mm_35 l (dC, dI) cy) rv_yX10_init rv_iX10_init rfl rv_lL_12 (dd (n := 6) (q := (12, .invokespecial 12, 3)) rfl) ⟨by decide, by decide⟩ rfl rfl rfl rfl hl.1 rfl p2 P2 D2 hS (Nat.le_of_ble_eq_true rfl) (Nat.le_of_ble_eq_true rfl) (Nat.le_of_ble_eq_true rfl) (fun o2 ho2 u2 H locs hq2 hP hD hS => ?_)
  obtain ⟨h2, v1, v2, v3, v4, v5, v6⟩ := lw_s2 _ u2 o2 ho2 p2.1 hq2
  have ha2 : h2.2.1 0 = q1 := v3.trans (hq2.2.1 0 (by decide))
  have hg2 : h2.2.2.2 = st := v4.trans hq2.2.2.1
  rw [lw_no2 o2 ho2]
  show W p l e room_1 s m #[Value.ref b] below meth c H locs 94 14010 (lw_Z below #[Value.ref b] s) (F0 m 15 ls [.ref q1])
  rw [← ha2]
  refine lv_astore_n (lv' := [(2, .ref (h2.2.1 0)), (1, .ref (h1.2.1 0)), (0, .ref b)]) hx hb (dd (n := 7) (q := (15, .astore_n 2, 1)) rfl) rfl hl (by decide) rfl (fun ls hl => ?_)
  refine lv_iconst (v := 0) hx hb (dd (n := 8) (q := (16, .iconst 0, 1)) rfl) (by decide) ?_
  refine lv_istore_n (lv' := [(3, .int 0), (2, .ref (h2.2.1 0)), (1, .ref (h1.2.1 0)), (0, .ref b)]) hx hb (dd (n := 9) (q := (17, .istore_n 3, 1)) rfl) rfl hl (by decide) rfl (fun ls hl => ?_)
  exact lw_loop C0 hL Cx hN (Nat.le_of_ble_eq_true rfl) (Nat.le_of_ble_eq_true rfl) (L + 7) 0 (by omega) (by omega) h1 h2 lw_M0 H locs ls (Or.inl rfl) ⟨⟨a1, a2, hg1⟩, ⟨v1, v2, hg2⟩, a5.trans v5.symm, v6.P hP, v6.D hD, hS⟩ hl
