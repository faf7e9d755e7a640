theorem lw_nw : ∀ q ∈ rv_NW, Jvm.Cond.methodLinkNest q.1 q.2.1 q.2.2.1 q.2.2.2 ∈ lw_tbl := by decide +kernel
theorem lw_inst0 : Jvm.Cond.instantiable RX0 3 ∈ rv_tbl := (rv_mem2 (i := 18) (by decide +kernel) rfl)
theorem lw_inst1 : Jvm.Cond.instantiable RX1 2 ∈ rv_tbl := (rv_mem1 (i := 97) (by decide +kernel) rfl)
theorem lw_inst2 : Jvm.Cond.instantiable RX2 6 ∈ rv_tbl := (rv_mem2 (i := 80) (by decide +kernel) rfl)
theorem lw_inst3 : Jvm.Cond.instantiable RX3 6 ∈ rv_tbl := (rv_mem1 (i := 30) (by decide +kernel) rfl)
theorem lw_inst4 : Jvm.Cond.instantiable RX4 18 ∈ rv_tbl := (rv_mem1 (i := 91) (by decide +kernel) rfl)
theorem lw_inst5 : Jvm.Cond.instantiable RX5 10 ∈ rv_tbl := (rv_mem1 (i := 85) (by decide +kernel) rfl)
theorem lw_inst6 : Jvm.Cond.instantiable RX6 5 ∈ rv_tbl := (rv_mem1 (i := 36) (by decide +kernel) rfl)
theorem lw_inst7 : Jvm.Cond.instantiable RX7 7 ∈ rv_tbl := (rv_mem2 (i := 109) (by decide +kernel) rfl)
theorem lw_inst8 : Jvm.Cond.instantiable RX8 11 ∈ rv_tbl := (rv_mem2 (i := 36) (by decide +kernel) rfl)
theorem lw_inst9 : Jvm.Cond.instantiable RX9 10 ∈ rv_tbl := (rv_mem1 (i := 22) (by decide +kernel) rfl)
theorem lw_inst10 : Jvm.Cond.instantiable RX10 70 ∈ rv_tbl := (rv_mem5 (i := 160) (by decide +kernel) rfl)
theorem lw_known {s : State} {args : Array Value} (hts : ∀ w ∈ lw_tbl, w.before args s = true) : ∃ (dC : Nat → ClassId) (dI : Nat → Nat → Nat), ∀ (k : Nat) (q : vw_C), vwCl[k]? = some q → u_Kn s q.1 q.2.1 q.2.2 (dC k) (dI k) := by
  have key : ∀ k : Nat, ∃ z : ClassId × (Nat → Nat), ∀ q : vw_C, vwCl[k]? = some q → u_Kn s q.1 q.2.1 q.2.2 z.1 z.2 := by
    intro k
    match k with
    | 0 =>
      obtain ⟨cC, iS, hk⟩ := u_known (C := RX0) (T := TX0) (N := 3) (n := 3) hts (fun w h => lw_in (rv_in0 w h)) (hts _ (lw_in lw_inst0))
      exact ⟨(cC, iS), fun q hq => by cases hq; exact hk⟩
    | 1 =>
      obtain ⟨cC, iS, hk⟩ := u_known (C := RX1) (T := TX1) (N := 2) (n := 2) hts (fun w h => lw_in (rv_in1 w h)) (hts _ (lw_in lw_inst1))
      exact ⟨(cC, iS), fun q hq => by cases hq; exact hk⟩
    | 2 =>
      obtain ⟨cC, iS, hk⟩ := u_known (C := RX2) (T := TX2) (N := 6) (n := 6) hts (fun w h => lw_in (rv_in2 w h)) (hts _ (lw_in lw_inst2))
      exact ⟨(cC, iS), fun q hq => by cases hq; exact hk⟩
    | 3 =>
      obtain ⟨cC, iS, hk⟩ := u_known (C := RX3) (T := TX3) (N := 6) (n := 6) hts (fun w h => lw_in (rv_in3 w h)) (hts _ (lw_in lw_inst3))
      exact ⟨(cC, iS), fun q hq => by cases hq; exact hk⟩
    | 4 =>
      obtain ⟨cC, iS, hk⟩ := u_known (C := RX4) (T := TX4) (N := 18) (n := 18) hts (fun w h => lw_in (rv_in4 w h)) (hts _ (lw_in lw_inst4))
      exact ⟨(cC, iS), fun q hq => by cases hq; exact hk⟩
    | 5 =>
      obtain ⟨cC, iS, hk⟩ := u_known (C := RX5) (T := TX5) (N := 10) (n := 10) hts (fun w h => lw_in (rv_in5 w h)) (hts _ (lw_in lw_inst5))
      exact ⟨(cC, iS), fun q hq => by cases hq; exact hk⟩
    | 6 =>
      obtain ⟨cC, iS, hk⟩ := u_known (C := RX6) (T := TX6) (N := 5) (n := 5) hts (fun w h => lw_in (rv_in6 w h)) (hts _ (lw_in lw_inst6))
      exact ⟨(cC, iS), fun q hq => by cases hq; exact hk⟩
    | 7 =>
      obtain ⟨cC, iS, hk⟩ := u_known (C := RX7) (T := TX7) (N := 7) (n := 7) hts (fun w h => lw_in (rv_in7 w h)) (hts _ (lw_in lw_inst7))
      exact ⟨(cC, iS), fun q hq => by cases hq; exact hk⟩
    | 8 =>
      obtain ⟨cC, iS, hk⟩ := u_known (C := RX8) (T := TX8) (N := 11) (n := 11) hts (fun w h => lw_in (rv_in8 w h)) (hts _ (lw_in lw_inst8))
      exact ⟨(cC, iS), fun q hq => by cases hq; exact hk⟩
    | 9 =>
      obtain ⟨cC, iS, hk⟩ := u_known (C := RX9) (T := TX9) (N := 10) (n := 10) hts (fun w h => lw_in (rv_in9 w h)) (hts _ (lw_in lw_inst9))
      exact ⟨(cC, iS), fun q hq => by cases hq; exact hk⟩
    | 10 =>
      obtain ⟨cC, iS, hk⟩ := u_known (C := RX10) (T := TX10) (N := 70) (n := 70) hts (fun w h => lw_in (rv_in10 w h)) (hts _ (lw_in lw_inst10))
      exact ⟨(cC, iS), fun q hq => by cases hq; exact hk⟩
    | k + 11 => exact ⟨(0, fun _ => 0), fun q hq => by cases hq⟩
  obtain ⟨f, hf⟩ := Classical.axiomOfChoice key
  exact ⟨fun k => (f k).1, fun k => (f k).2, hf⟩
def lw_F1 : List rv_V := [(3, 0), (3, 0), (3, 0), (3, 0), (3, 0), (3, 0), (3, 0), (3, 0), (3, 0), (0, 0)]
def lw_F2 : List rv_V := [(3, 0), (3, 0), (0, 0), (0, 0), (0, 0), (0, 0), (0, 0), (0, 0), (0, 0), (0, 0), (1, 0), (3, 0), (3, 0), (3, 0), (3, 0), (3, 0), (3, 0), (3, 0), (3, 0), (3, 0), (3, 0), (3, 0), (3, 0), (3, 0), (3, 0), (3, 0), (3, 0), (3, 0), (3, 0), (3, 0), (3, 0), (3, 0), (3, 0), (3, 0), (3, 0), (3, 0), (0, 0), (0, 0), (0, 0), (0, 0), (0, 0), (0, 0), (0, 0), (0, 0), (0, 0), (0, 0), (3, 0), (3, 0), (0, 0), (0, 0), (3, 0), (3, 0), (3, 0), (3, 0), (3, 0), (0, 0), (0, 0), (0, 0), (3, 0), (3, 0), (3, 0), (3, 0), (3, 0), (3, 0), (3, 0), (0, 0), (0, 0), (0, 0), (3, 0), (3, 0)]
theorem lw_df1 : ∀ j, j < 10 → defaultValue (tyX9 j) = vp_V (lw_F1.map (rv_v (lw_g0 0 (fun _ => 0)))) j := by decide +kernel
theorem lw_df2 : ∀ j, j < 70 → defaultValue (tyX10 j) = vp_V (lw_F2.map (rv_v (lw_g0 0 (fun _ => 0)))) j := by decide +kernel
theorem lw_cl7 : Jvm.Cond.classLink R_law 7 RX9 ∈ rv_tbl := (rv_mem1 (i := 21) (by decide +kernel) rfl)
theorem lw_cl10 : Jvm.Cond.classLink R_law 10 RX10 ∈ rv_tbl := (rv_mem5 (i := 159) (by decide +kernel) rfl)
theorem lw_ini9 : Jvm.Cond.initialized RX9 ∈ rv_tbl := (rv_mem1 (i := 1) (by decide +kernel) rfl)
theorem lw_ini10 : Jvm.Cond.initialized RX10 ∈ rv_tbl := (rv_mem1 (i := 11) (by decide +kernel) rfl)
theorem lw_ls1 : Jvm.Cond.laysStatic "java/lang/String" "COMPACT_STRINGS" "Z" ∈ lw_tbl := List.mem_append_right _ (show _ ∈ tables_1 from List.mem_append_right _ (List.mem_append_left _ (List.mem_of_getElem? (i := 224) (by decide +kernel))))
theorem lw_ls2 : Jvm.Cond.laysStatic rs_P "SIOOBE_FORMATTER" "Ljava/util/function/BiFunction;" ∈ lw_tbl := List.mem_append_right _ (show _ ∈ tables_1 from List.mem_append_right _ (List.mem_append_right _ (List.mem_append_left _ (List.mem_of_getElem? (i := 0) (by decide +kernel)))))
theorem lw_is1 : Jvm.Cond.initialized "java/lang/String" ∈ rv_tbl := (rv_mem1 (i := 13) (by decide +kernel) rfl)
theorem lw_is2 : Jvm.Cond.initialized rs_P ∈ rv_tbl := (rv_mem1 (i := 15) (by decide +kernel) rfl)
theorem lw_sr0 : Jvm.Cond.stringRef "TalkBridge$Tape" 67 rs_t0 ∈ lw_tbl := List.mem_append_right _ (show _ ∈ tables_1 from List.mem_append_right _ (List.mem_append_left _ (List.mem_of_getElem? (i := 214) (by decide +kernel))))
theorem lw_sr1 : Jvm.Cond.stringRef "TalkBridge$Tape" 60 rs_t1 ∈ lw_tbl := List.mem_append_right _ (show _ ∈ tables_1 from List.mem_append_right _ (List.mem_append_right _ (List.mem_append_left _ (List.mem_of_getElem? (i := 26) (by decide +kernel)))))
def lw_tm (i : Nat) : Term := .string "TalkBridge$Tape" (if i = 0 then 67 else 60)
theorem lw_fx : ∀ i, i < 2 → (Cond.exactly (lw_tm i) "java/lang/String") ∈ flatC (Jvm.Cond.and given_1 narrow_1) ∧ (Cond.eq (.field (lw_tm i) "java/lang/String" "coder" "B") (.int 0)) ∈ flatC (Jvm.Cond.and given_1 narrow_1) ∧ (Cond.arrayOf (.field (lw_tm i) "java/lang/String" "value" "[B") .byte) ∈ flatC (Jvm.Cond.and given_1 narrow_1) ∧ (Cond.eq (.length (.field (lw_tm i) "java/lang/String" "value" "[B")) (.int (Int32.ofNat (rs_len.getD i 0)))) ∈ flatC (Jvm.Cond.and given_1 narrow_1) := by decide +kernel
theorem lw_fy0 : ∀ j, j < 192 → (flatC (Jvm.Cond.and given_1 narrow_1))[13 + j]? = some (Cond.eq (.elem (.field (.string "TalkBridge$Tape" 67) "java/lang/String" "value" "[B") (.int (Int32.ofNat j))) (.int ((rs_byt.getD 0 []).getD j 0))) := by decide +kernel
theorem lw_fy1 : ∀ j, j < 11 → (flatC (Jvm.Cond.and given_1 narrow_1))[209 + j]? = some (Cond.eq (.elem (.field (.string "TalkBridge$Tape" 60) "java/lang/String" "value" "[B") (.int (Int32.ofNat j))) (.int ((rs_byt.getD 1 []).getD j 0))) := by decide +kernel
theorem lw_fy (i : Nat) (hi : i < 2) (j : Nat) (hj : j < rs_len.getD i 0) : (Cond.eq (.elem (.field (lw_tm i) "java/lang/String" "value" "[B") (.int (Int32.ofNat j))) (.int ((rs_byt.getD i []).getD j 0))) ∈ flatC (Jvm.Cond.and given_1 narrow_1) := by
  match i, hi with
  | 0, _ => exact List.mem_of_getElem? (lw_fy0 j hj)
  | 1, _ => exact List.mem_of_getElem? (lw_fy1 j hj)
theorem lw_fz : (Cond.not (Cond.eq (lw_tm 0) (lw_tm 1))) ∈ flatC (Jvm.Cond.and given_1 narrow_1) ∨ (Cond.not (Cond.eq (lw_tm 1) (lw_tm 0))) ∈ flatC (Jvm.Cond.and given_1 narrow_1) := by decide +kernel
theorem lw_fu : (Cond.eq (.static "java/lang/String" "COMPACT_STRINGS" "Z") (.int 1)) ∈ flatC (Jvm.Cond.and given_1 narrow_1) := by decide +kernel
theorem lw_fv : (Cond.isRef (.static rs_P "SIOOBE_FORMATTER" "Ljava/util/function/BiFunction;")) ∈ flatC (Jvm.Cond.and given_1 narrow_1) := by decide +kernel
theorem lw_str {p : Program} {s : State} {m : MethodId} {meth : Method} {c : Code} {b L : Nat} {xs : Nat → Int32} (cy : Nat → ClassId) (C0 : lw_At p s m meth c b L xs) : ∃ st : Nat → Nat, rv_St cy (lw_A s) s st := by
  obtain ⟨hx, hb, hr, hml, hown, hts, hX, hbl, hlocks, hgv⟩ := id C0
  have hs := flat_of_before _ hgv
  have hA : ∀ a : Nat, a < s.heap.size → ¬ lw_A s a := fun a h => Nat.not_le.mpr h
  obtain ⟨adK, adV, h1, h2⟩ := vk_Sof (N := 2) (tm := lw_tm) (len := rs_len) (byt := rs_byt) (A := lw_A s) (args := #[Value.ref b]) (s := s) (by decide) (fun i hi => hs _ (lw_fx i hi).1) (fun i hi => hs _ (lw_fx i hi).2.1) (fun i hi => hs _ (lw_fx i hi).2.2.1) (fun i hi => hs _ (lw_fx i hi).2.2.2) (fun i hi j hj => hs _ (lw_fy i hi j hj)) (fun i j hi hj hij => by
    have hc : (i = 0 ∧ j = 1) ∨ (i = 1 ∧ j = 0) := by omega
    rcases hc with ⟨e1, e2⟩ | ⟨e1, e2⟩
    · subst e1; subst e2
      exact lw_fz.elim (fun z => Or.inl (hs _ z)) (fun z => Or.inr (hs _ z))
    · subst e1; subst e2
      exact lw_fz.elim (fun z => Or.inr (hs _ z)) (fun z => Or.inl (hs _ z))) hA
  have hZ1 := va_Zof (A := lw_A s) (hts _ lw_ls1) (hts _ (lw_in lw_is1)) (va_eqi (hs _ lw_fu)) hA
  have hZ2 := va_Zqof (A := lw_A s) (hts _ lw_ls2) (hts _ (lw_in lw_is2)) (hs _ lw_fv) hA
  refine ⟨fun k => if k % 2 = 0 then adK (k / 2) else adV (k / 2), ?_, vk_R.of (hts _ lw_sr0) (h2 0 (by decide)), vk_R.of (hts _ lw_sr1) (h2 1 (by decide)), hZ1, ?_⟩
  · have e1 : (fun i => (fun k : Nat => if k % 2 = 0 then adK (k / 2) else adV (k / 2)) (2 * i)) = adK := by
      funext i
      show (if 2 * i % 2 = 0 then adK (2 * i / 2) else adV (2 * i / 2)) = adK i
      rw [if_pos (by omega), show 2 * i / 2 = i by omega]
    have e2 : (fun i => (fun k : Nat => if k % 2 = 0 then adK (k / 2) else adV (k / 2)) (2 * i + 1)) = adV := by
      funext i
      show (if (2 * i + 1) % 2 = 0 then adK ((2 * i + 1) / 2) else adV ((2 * i + 1) / 2)) = adV i
      rw [if_neg (by omega), show (2 * i + 1) / 2 = i by omega]
    rw [e1, e2]
    exact h1
  · rcases hZ2 with z | ⟨t, z⟩
    · exact ⟨.null, rfl, z⟩
    · exact ⟨.ref t, rfl, z⟩
theorem lw_s1 (g u : rv_G) (o : rv_O) (ho : o ∈ kk_31.2.2.2.1) (hg : rv_e g kk_31.1) (hp : rv_post g u kk_31 o) : ∃ h', rv_e h' lw_Mc.1 ∧ rv_x h' lw_Mc.2 ∧ h'.2.1 0 = u.2.1 0 ∧ h'.2.2.2 = u.2.2.2 ∧ h'.1 61 = 0 ∧ lw_Mv u h' o.2.2.2 lw_Mc.2 := by
  have hc : kk_31.2.2.2.1.all (fun o => rv_fp (kk_31.1 ++ o.2.1) (fun F => lw_tk2 F o.2.2.2 61 49 lw_Mc && rv_bd1 F 49 0 0)) = true := by decide +kernel
  have h1 := List.all_eq_true.mp hc o ho
  rw [rv_fp_eq, Bool.and_eq_true] at h1
  have hw : rv_wfE kk_31.1.length kk_31.1 = true := by decide +kernel
  have hB := lw_eB hg hw rfl hp
  obtain ⟨h', z1, z2, z3, z4, z5, z6⟩ := lw_tk2_ok hB hp.2.2.2.2.2 h1.1
  have hb := rv_bd1_ok hB h1.2
  exact ⟨h', z1, z2, z3, z4, by rw [z5]; omega, z6⟩
theorem lw_no1 : ∀ o ∈ kk_31.2.2.2.1, o.2.2.1 = none := by decide +kernel
theorem lw_s2 (g u : rv_G) (o : rv_O) (ho : o ∈ kk_35.2.2.2.1) (hg : rv_e g kk_35.1) (hp : rv_post g u kk_35 o) : ∃ h', rv_e h' lw_M0.1 ∧ rv_x h' lw_M0.2 ∧ h'.2.1 0 = u.2.1 0 ∧ h'.2.2.2 = u.2.2.2 ∧ h'.1 25 = 0 ∧ lw_Mv u h' o.2.2.2 lw_M0.2 := by
  have hc : kk_35.2.2.2.1.all (fun o => rv_fp (kk_35.1 ++ o.2.1) (fun F => lw_tk2 F o.2.2.2 25 0 lw_M0 && rv_bd1 F 0 0 0)) = true := by decide +kernel
  have h1 := List.all_eq_true.mp hc o ho
  rw [rv_fp_eq, Bool.and_eq_true] at h1
  have hw : rv_wfE kk_35.1.length kk_35.1 = true := by decide +kernel
  have hB := lw_eB hg hw rfl hp
  obtain ⟨h', z1, z2, z3, z4, z5, z6⟩ := lw_tk2_ok hB hp.2.2.2.2.2 h1.1
  have hb := rv_bd1_ok hB h1.2
  exact ⟨h', z1, z2, z3, z4, by rw [z5]; omega, z6⟩
theorem lw_no2 : ∀ o ∈ kk_35.2.2.2.1, o.2.2.1 = none := by decide +kernel
