/-! a method's contract out of the fast check -/
noncomputable def rf_chk (RL : List rv_Rl) (DT : List rv_Dt) (sp : Option (Nat × Int × Nat)) (T : rv_T) (P : rv_P) (pr : List (Nat × Instr × Nat)) (CT : List (Nat × rv_K)) (HD : List (Nat × rv_Hd)) (K : rv_K) (rt fu : Nat) : Bool := rv_wfK K && (Nat.ble (rv_catS K.2.1) P.2.1 && ((rv_spk K.1 sp && (rv_spl K.1 sp).all (fun E0 => rf_segN RL DT T P pr CT HD K rt none fu (0, E0, rv_la 0 K.2.1, [], K.2.2.1, 0, 0))) && HD.all (fun q => rv_wfH K.1.length K.2.2.1.length q.2 && rf_segN RL DT T P pr CT HD K rt (some q.2.2.2.2.2.2.2) fu (q.1, q.2.1, q.2.2.1, q.2.2.2.1, q.2.2.2.2.1, q.2.2.2.2.2.1, q.2.2.2.2.2.2.1))))
theorem rf_meth {NW : List (String × Nat × MethodName × String)} {l : Launch} {D : va_G} {cl : List vw_C} {cy : Nat → ClassId} {y : MethodName} {cc : ByteArray} {nL : Nat} {ret : Option FieldType} {rm : Room} {K : rv_K} {T : rv_T} {P : rv_P} {pr : List (Nat × Instr × Nat)} {CT : List (Nat × rv_K)} {HD : List (Nat × rv_Hd)} {fu : Nat} {RL : List rv_Rl} {DT : List rv_Dt} {sp : Option (Nat × Int × Nat)} (hRL : ∀ r ∈ RL, rv_RlOk r)
    (hplain : plainName y.cls = true) (hT : rv_TOk y.cls rv_tbl cl T) (hP : P.2.1 = nL ∧ rm.frames = P.2.2.1 ∧ rm.locals = P.2.2.2.1 ∧ rm.cells = P.2.2.2.2.1 ∧ rm.slots = P.2.2.2.2.2.1 ∧ (P.2.2.2.2.2.2 = true → y.name = "<init>")) (hpr : ∀ q ∈ pr, decode cc q.1 = .ok (q.2.1, q.2.2)) (hCT : ∀ q ∈ CT, rv_CC NW l D cl cy y cc nL ret rm q) (hchk : rf_chk RL DT sp T P pr CT HD K (rv_rt ret) fu = true) : rv_Met NW l D cl cy y (rv_ws y cc nL ret) rm K := by
  intro g0 sz hpre
  unfold rf_chk at hchk
  rw [Bool.and_eq_true, Bool.and_eq_true, Bool.and_eq_true, Bool.and_eq_true, Nat.ble_eq] at hchk
  obtain ⟨c1, c2, ⟨c5, c3⟩, c4⟩ := hchk
  refine Met.ofW (cc := cc) (maxL := nL) (ret := ret) hplain rfl ?_
  intro p e s m args below meth c s₁ B hml hv
  obtain ⟨hargs, hsz, hPw, hK, hD0, hNW, hSt⟩ := hv
  subst hargs
  subst hsz
  have hx := B.exec
  have hb := B.bytes
  have hr := B.returns
  have hts := atoms_spec (ws := rv_ws y cc nL ret) B.pre
  have hown : s.vm.findClass y.cls = some m.cls := findClass_of_methodNamed B.named
  have hlocks := B.notSynchronized
  have hname : meth.name = y.name := (name_of_methodNamed B.named B.method).1
  have hD := hD0.self (sz := s.heap.size)
  have hA : ∀ q : Nat, s.heap.size ≤ q → va_A (rv_w cy g0 K.2.2.1) s.heap.size q := fun q h => Or.inr h
  have Cx : rv_Cx p s m (K.2.1.map (rv_v g0)).toArray c cc y.cls nL (rv_ws y cc nL ret) D cl cy (va_A (rv_w cy g0 K.2.2.1) s.heap.size) g0.2.2.2 := ⟨hx, hb, hml, hown, hts, hK, hA, hSt⟩
  have hT2 : rv_TOk y.cls (rv_ws y cc nL ret) cl T := rv_TOk_mono (fun w hw => List.mem_cons_of_mem _ hw) hT
  have hP2 : rv_POk (headSpec (rv_ws y cc nL ret) rm).room meth nL P := ⟨hP.1, hP.2.1, hP.2.2.1, hP.2.2.2.1, hP.2.2.2.2.1, fun h => by rw [hname]; exact hP.2.2.2.2.2 h⟩
  have hCT2 : ∀ q ∈ CT, rv_wfK q.2 = true ∧ rv_CallOk p l e (headSpec (rv_ws y cc nL ret) rm).room s m (K.2.1.map (rv_v g0)).toArray below meth c (MQ below (rv_Qc D cl cy g0 K (va_A (rv_w cy g0 K.2.2.1) s.heap.size)) (K.2.1.map (rv_v g0)).toArray s K.2.2.2.2.1 K.2.2.2.2.2 (va_A (rv_w cy g0 K.2.2.1) s.heap.size)) D cl (va_A (rv_w cy g0 K.2.2.1) s.heap.size) cy nL g0.2.2.2 q.1 q.2 := fun q hq => ⟨(hCT q hq).1, (hCT q hq).2 p e s m _ below meth c _ _ _ Cx hNW⟩
  have hheads := rf_heads_ok (g0 := g0) hRL c1 rfl Cx hT2 hP2 hr hlocks hpr hCT2 c4
  have hl := lv_entry (K.2.1.map (rv_v g0)) (n := nL) (by rw [rv_sl_len, ← hP.1]; exact c2)
  rw [lg_entry_eq]
  rw [rv_la_ok] at hl
  generalize (lg_sl (K.2.1.map (rv_v g0)) ++ List.replicate (nL - (lg_sl (K.2.1.map (rv_v g0))).length) Slot.unset).toArray = ls at hl ⊢
  have c1' := c1
  unfold rv_wfK at c1'
  rw [Bool.and_eq_true, Bool.and_eq_true, Bool.and_eq_true] at c1'
  obtain ⟨w0, w1, w2, -⟩ := c1'
  have R0 : rv_R D cl (va_A (rv_w cy g0 K.2.2.1) s.heap.size) s.heap cy nL ((rv_ho g0 K).1 ++ rv_rf g0 none, (rv_ho g0 K).2) g0 K.1 (rv_la 0 K.2.1) [] K.2.2.1 ls s.heap [] := by
    refine ⟨hpre.1, hpre.2, ⟨fun b hb => (rv_wfE_ok w0 hb).1, fun q hq => rv_okb_ok (List.all_eq_true.mp w1 q.2 (rv_la_mem _ _ q hq)), fun a ha => (by cases ha), fun cd hcd => rv_okcb_ok (List.all_eq_true.mp w2 cd hcd)⟩, ⟨fun q hq => ?_, fun k a hk => ?_, rfl⟩, hl, hPw, hD, va_S.rf⟩
    · rw [show rv_rf g0 none = [] from rfl, List.append_nil] at hq
      obtain ⟨i, hi, rfl⟩ := List.mem_map.mp hq
      exact ⟨List.mem_range.mp hi, rfl⟩
    · have hk : ((List.range K.2.2.1.length).map g0.2.1)[k]? = some a := hk
      rw [List.getElem?_map] at hk
      cases hr2 : (List.range K.2.2.1.length)[k]? with
      | none => rw [hr2] at hk; cases hk
      | some z =>
        rw [hr2] at hk
        have hlt : k < K.2.2.1.length := by
          have := (List.getElem?_eq_some_iff.mp hr2).1
          rw [List.length_range] at this
          exact this
        rw [List.getElem?_range hlt] at hr2
        have hz := Option.some.inj hr2
        subst hz
        exact ⟨hlt, Option.some.inj hk⟩
  obtain ⟨E0, m0, R1⟩ := rv_spl_ok R0 c5
  have c6 := List.all_eq_true.mp c3 E0 m0
  refine rf_segN_ok (gr := g0) (rk0 := none) hRL c1 rfl Cx hT2 hP2 hr hlocks hpr hCT2 (fun q hq => ⟨?_, hheads q hq⟩) fu _ c6 g0 ls s.heap [] R1
  have := List.all_eq_true.mp c4 q hq
  rw [Bool.and_eq_true] at this
  exact this.1
/-- the check in pieces: the start, and each list of heads by itself -/
theorem rf_chkP {RL : List rv_Rl} {DT : List rv_Dt} {sp : Option (Nat × Int × Nat)} {T : rv_T} {P : rv_P} {pr : List (Nat × Instr × Nat)} {CT : List (Nat × rv_K)} {HD : List (Nat × rv_Hd)} {K : rv_K} {rt fu : Nat} (h1 : (rv_wfK K && (Nat.ble (rv_catS K.2.1) P.2.1 && (rv_spk K.1 sp && (rv_spl K.1 sp).all (fun E0 => rf_segN RL DT T P pr CT HD K rt none fu (0, E0, rv_la 0 K.2.1, [], K.2.2.1, 0, 0))))) = true) (h2 : HD.all (fun q => rv_wfH K.1.length K.2.2.1.length q.2 && rf_segN RL DT T P pr CT HD K rt (some q.2.2.2.2.2.2.2) fu (q.1, q.2.1, q.2.2.1, q.2.2.2.1, q.2.2.2.2.1, q.2.2.2.2.2.1, q.2.2.2.2.2.2.1)) = true) : rf_chk RL DT sp T P pr CT HD K rt fu = true := by
  unfold rf_chk
  rw [Bool.and_eq_true, Bool.and_eq_true] at h1
  rw [Bool.and_eq_true, Bool.and_eq_true, Bool.and_eq_true]
  exact ⟨h1.1, h1.2.1, h1.2.2, h2⟩
theorem rf_allP {α : Type} {f : α → Bool} {a b : List α} (h1 : a.all f = true) (h2 : b.all f = true) : (a ++ b).all f = true := by rw [List.all_append, h1, h2]; rfl
