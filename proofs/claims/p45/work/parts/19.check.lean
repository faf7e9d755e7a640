/-! String.checkIndex, by hand -/
theorem rs_yP : rv_Yi yJ3_checkIndex_8e157 cJ3_checkIndex_8e157 3 (Option.some Jvm.ClassFile.FieldType.int) 3 := ⟨⟨(rv_mem3 (i := 3) (by decide +kernel) rfl), (rv_mem1 (i := 15) (by decide +kernel) rfl)⟩, by decide +kernel, by decide +kernel, by decide +kernel⟩
theorem rs_iP : Jvm.Cond.static yJ3_checkIndex_8e157 ∈ rv_tbl := (rv_mem3 (i := 2) (by decide +kernel) rfl)
theorem rs_lP : Jvm.Cond.methodLink RJ0 1059 yJ3_checkIndex_8e157 ∈ rv_tbl := (rv_mem3 (i := 1) (by decide +kernel) rfl)
theorem rs_fP : Jvm.Cond.fieldLink RJ0 1053 rs_P "SIOOBE_FORMATTER" "Ljava/util/function/BiFunction;" ∈ rv_tbl := (rv_mem2 (i := 239) (by decide +kernel) rfl)
theorem rs_pJ3 : ∀ q ∈ ([(0, .iload_n 0, 1), (1, .ifCond .lt 8, 3), (4, .iload_n 0, 1), (5, .iload_n 1, 1), (6, .if_icmp .lt 10, 3), (16, .iload_n 0, 1), (17, .ireturn, 1)] : List (Nat × Instr × Nat)), decode cJ3_checkIndex_8e157 q.1 = .ok (q.2.1, q.2.2) := by decide +kernel
theorem rs_pJ0 : ∀ q ∈ ([(0, .iload_n 0, 1), (1, .iload_n 1, 1), (2, .getstatic 1053, 3), (5, .invokestatic 1059, 3), (8, .pop, 1), (9, .return_, 1)] : List (Nat × Instr × Nat)), decode cJ0_checkIndex_df160 q.1 = .ok (q.2.1, q.2.2) := by decide +kernel
abbrev rs_rP : Room := { frames := 0, cells := 0, slots := 0, locals := 0 }
theorem rs_sl3 {i n : Int32} {v : Value} (hv : v.category = 1) : (lg_sl [.int i, .int n, v]).length = 3 := by
  have h : ¬ v.category = 2 := by omega
  show ((if (Value.int i).category = 2 then _ else _) ++ ((if (Value.int n).category = 2 then _ else _) ++ ((if v.category = 2 then [Slot.val v, Slot.second] else [Slot.val v]) ++ []))).length = 3
  rw [if_neg h]
  rfl
theorem rs_pre {l : Launch} {i n : Int32} {v : Value} {sz : Nat} {A : Nat → Prop} (hv : v.category = 1) (hi : ¬ i < 0) (hin : i < n) : Met l yJ3_checkIndex_8e157 (rv_ws yJ3_checkIndex_8e157 cJ3_checkIndex_8e157 3 (some .int)) rs_rP (va_Pc [.int i, .int n, v] (fun U => U.heap.size = sz)) (va_Qi (fun _ (_ : Unit) => True) (fun _ _ => True) A) 0 0 A := by
  refine Met.ofW (cc := cJ3_checkIndex_8e157) (maxL := 3) (ret := some .int) (by decide) rfl ?_
  intro p e s m args below meth c s₁ B hml hq
  obtain ⟨hargs, hsz⟩ := hq
  subst hargs
  have hx := B.exec
  have hb := B.bytes
  have hr := B.returns
  have hlocks := B.notSynchronized
  have dd : ∀ {n : Nat} {q : Nat × Instr × Nat}, ([(0, .iload_n 0, 1), (1, .ifCond .lt 8, 3), (4, .iload_n 0, 1), (5, .iload_n 1, 1), (6, .if_icmp .lt 10, 3), (16, .iload_n 0, 1), (17, .ireturn, 1)] : List (Nat × Instr × Nat))[n]? = some q → decode cJ3_checkIndex_8e157 q.1 = .ok (q.2.1, q.2.2) := fun h => rs_pJ3 _ (List.mem_of_getElem? h)
  have hl := lv_entry [.int i, .int n, v] (n := 3) (by rw [rs_sl3 hv]; exact Nat.le_refl _)
  rw [lg_entry_eq]
  generalize (lg_sl [.int i, .int n, v] ++ List.replicate (3 - (lg_sl [.int i, .int n, v]).length) Slot.unset).toArray = ls at hl ⊢
  have h0 : ls[0]? = some (.val (.int i)) := lv_at hl 0 rfl
  have h1 : ls[1]? = some (.val (.int n)) := lv_at hl 1 rfl
  refine lv_iload_n hx hb (dd (n := 0) (q := (0, .iload_n 0, 1)) rfl) rfl h0 ?_
  refine lv_if_lt (tgt := 9) hx hb (dd (n := 1) (q := (1, .ifCond .lt 8, 3)) rfl) rfl (fun h => absurd h hi) (fun _ => ?_)
  refine lv_iload_n hx hb (dd (n := 2) (q := (4, .iload_n 0, 1)) rfl) rfl h0 ?_
  refine lv_iload_n hx hb (dd (n := 3) (q := (5, .iload_n 1, 1)) rfl) rfl h1 ?_
  refine lv_icmp_lt (tgt := 16) hx hb (dd (n := 4) (q := (6, .if_icmp .lt 10, 3)) rfl) rfl (fun _ => ?_) (fun h => absurd hin h)
  refine lv_iload_n hx hb (dd (n := 5) (q := (16, .iload_n 0, 1)) rfl) rfl h0 ?_
  exact W.iret hx hb hr (fun t ht hW => ⟨⟨i, (), rfl, trivial, trivial⟩, (va_S.rf (A := A)).F ht⟩) (fun q hq => (by cases hq)) (dd (n := 6) (q := (17, .ireturn, 1)) rfl) hlocks
theorem rs_ci (l : Launch) (D : va_G) (cy : Nat → ClassId) {K : rv_K} {rm : Room} {i n : Nat} (il ih nl nh : Int) (hargs : K.2.1 = [(0, i), (0, n)]) (hout : K.2.2.2.1 = [([], [], none, K.2.2.1)]) (hmc : K.2.2.2.2.1 = 0) (hms : K.2.2.2.2.2 = 0) (hrm : 1 ≤ rm.frames ∧ 40 ≤ rm.locals) (hbd : 0 ≤ il ∧ ih < nl ∧ ih ≤ 2147483647 ∧ nh ≤ 2147483647) (hpr : ∀ g : rv_G, rv_pre g K → il ≤ g.1 i ∧ g.1 i ≤ ih ∧ nl ≤ g.1 n ∧ g.1 n ≤ nh) : rv_Met rv_NW l D vwCl cy yJ0_checkIndex_df160 (rv_ws yJ0_checkIndex_df160 cJ0_checkIndex_df160 2 none) rm K := by
  intro g0 sz hpre
  refine Met.ofW (cc := cJ0_checkIndex_df160) (maxL := 2) (ret := none) (by decide) rfl ?_
  intro p e s m args below meth c s₁ B hml hv
  obtain ⟨ha, hsz, hPw, hK, hD0, hNW, hSt⟩ := hv
  rw [hargs] at ha
  have ha : args = [Value.int (Int32.ofInt (g0.1 i)), Value.int (Int32.ofInt (g0.1 n))].toArray := ha
  subst ha
  subst hsz
  have hx := B.exec
  have hb := B.bytes
  have hr := B.returns
  have hlocks := B.notSynchronized
  have hts := atoms_spec (ws := rv_ws yJ0_checkIndex_df160 cJ0_checkIndex_df160 2 none) B.pre
  have hown : s.vm.findClass RJ0 = some m.cls := findClass_of_methodNamed B.named
  have hD := hD0.self (sz := s.heap.size)
  obtain ⟨-, -, -, -, v, hcat, hZ⟩ := hSt
  obtain ⟨b1, b2, b3, b4⟩ := hpr g0 hpre
  have e1 : (Int32.ofInt (g0.1 i)).toInt = g0.1 i := rv_of32 (by rw [rv_lo_eq]; omega) (by rw [rv_hi_eq]; omega)
  have e2 : (Int32.ofInt (g0.1 n)).toInt = g0.1 n := rv_of32 (by rw [rv_lo_eq]; omega) (by rw [rv_hi_eq]; omega)
  have hi : ¬ Int32.ofInt (g0.1 i) < 0 := by
    intro h
    have h := Int32.lt_iff_toInt_lt.mp h
    rw [e1] at h
    have z : (0 : Int32).toInt = 0 := rfl
    omega
  have hin : Int32.ofInt (g0.1 i) < Int32.ofInt (g0.1 n) := by
    rw [Int32.lt_iff_toInt_lt, e1, e2]
    omega
  have dd : ∀ {n : Nat} {q : Nat × Instr × Nat}, ([(0, .iload_n 0, 1), (1, .iload_n 1, 1), (2, .getstatic 1053, 3), (5, .invokestatic 1059, 3), (8, .pop, 1), (9, .return_, 1)] : List (Nat × Instr × Nat))[n]? = some q → decode cJ0_checkIndex_df160 q.1 = .ok (q.2.1, q.2.2) := fun h => rs_pJ0 _ (List.mem_of_getElem? h)
  have hl := lv_entry [.int (Int32.ofInt (g0.1 i)), .int (Int32.ofInt (g0.1 n))] (n := 2) (Nat.le_of_ble_eq_true rfl)
  rw [lg_entry_eq]
  generalize (lg_sl [.int (Int32.ofInt (g0.1 i)), .int (Int32.ofInt (g0.1 n))] ++ List.replicate (2 - (lg_sl [.int (Int32.ofInt (g0.1 i)), .int (Int32.ofInt (g0.1 n))]).length) Slot.unset).toArray = ls at hl ⊢
  have h0 : ls[0]? = some (.val (.int (Int32.ofInt (g0.1 i)))) := lv_at hl 0 rfl
  have h1 : ls[1]? = some (.val (.int (Int32.ofInt (g0.1 n)))) := lv_at hl 1 rfl
  have hS0 : va_S (va_A (rv_w cy g0 K.2.2.1) s.heap.size) s.heap s.heap [] := va_S.rf
  refine lv_iload_n hx hb (dd (n := 0) (q := (0, .iload_n 0, 1)) rfl) rfl h0 ?_
  refine lv_iload_n hx hb (dd (n := 1) (q := (1, .iload_n 1, 1)) rfl) rfl h1 ?_
  refine va_gets hx hb hZ hS0 hown (hts _ (List.mem_cons_of_mem _ rs_fP)) (fun _ z => z) (dd (n := 2) (q := (2, .getstatic 1053, 3)) rfl) ?_
  have cw : CallB (headSpec (rv_ws yJ0_checkIndex_df160 cJ0_checkIndex_df160 2 none) rm).room s [Value.int (Int32.ofInt (g0.1 i)), Value.int (Int32.ofInt (g0.1 n))].toArray RJ0 1059 yJ3_checkIndex_8e157 cJ3_checkIndex_8e157 3 (some .int) (rv_ws yJ3_checkIndex_8e157 cJ3_checkIndex_8e157 3 (some .int)) rs_rP 0 0 3 := callB_of 3 hts (rv_ws_good rs_yP) rfl rfl rfl (hts _ (List.mem_cons_of_mem _ rs_yP.1.2)) (hts _ (List.mem_cons_of_mem _ rs_lP)) rs_yP.2 ⟨hrm.1, by show 8 + (3 + 11) + 0 ≤ rm.locals; omega⟩
  refine va_calli (A1 := fun _ => False) (A0 := va_A (rv_w cy g0 K.2.2.1) s.heap.size) (H0 := s.heap) (va_runS (As := [.int (Int32.ofInt (g0.1 i)), .int (Int32.ofInt (g0.1 n)), v]) (rest := []) ⟨hx, hb, hml, hown, hts⟩ (rs_pre (sz := s.heap.size) (A := fun _ => False) hcat hi hin) ⟨cw, hts _ (List.mem_cons_of_mem _ rs_iP)⟩ ⟨fun a U fr mk q => q, fun U hU _ => ⟨rfl, congrArg Array.size hU⟩⟩ rfl rfl hl.1 rfl (Nat.le_of_ble_eq_true rfl) (dd (n := 3) (q := (5, .invokestatic 1059, 3)) rfl) ⟨Nat.zero_le _, Nat.zero_le _⟩) hS0 (fun q _ z => z.elim) (fun q z => z.elim) (fun r u t H1 locs1 ht hal _ _ hz hk hS1 => ?_)
  refine lv_pop hx hb (dd (n := 4) (q := (8, .pop, 1)) rfl) rfl ?_
  have fin : ∀ t : State, t.heap = H1 → s.WarmedH t.vm → rv_Qc D vwCl cy g0 K (va_A (rv_w cy g0 K.2.2.1) s.heap.size) [Value.int (Int32.ofInt (g0.1 i)), Value.int (Int32.ofInt (g0.1 n))].toArray s (.returned none) t := by
    intro t ht hW
    have hP1 : va_P D vwCl (rv_w cy g0 K.2.2.1) t.heap := by
      intro k q hq
      have h5 := hPw k q hq
      exact h5.kept (by rw [ht]; exact hk q.1 h5.lt (fun z => z))
    exact ⟨⟨([], [], none, K.2.2.1), by rw [hout]; exact List.mem_singleton.mpr rfl, g0, ⟨fun _ _ => rfl, fun _ _ => rfl, rfl, fun q hq => (by cases hq), fun i b hb => (by cases hb), hpre.2⟩, rfl, hP1, hD⟩, hS1.F ht⟩
  rw [hmc, hms]
  exact W.vret hx hb hr fin hS1.2.2 (dd (n := 5) (q := (9, .return_, 1)) rfl) hlocks
