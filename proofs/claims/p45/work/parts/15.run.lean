/-! calls on the machine, and a method's end -/
theorem rv_ws_good {y y' : MethodName} {cc cc' : ByteArray} {nL nL' n : Nat} {ret ret' : Option FieldType} (h : rv_Yi y' cc' nL' ret' n) : GoodIn (rv_ws y cc nL ret) (rv_ws y' cc' nL' ret') := by
  intro w hw
  have hm : w ∈ rv_tbl := by
    rcases List.mem_cons.mp hw with h1 | h1
    · rw [h1]; exact h.1.1
    · exact h1
  exact ⟨List.mem_cons_of_mem _ hm, (rv_goodIn w hm).2⟩
section
variable {p : Program} {l : Launch} {e : Env} {R : Room} {s : State} {m : MethodId} {args : Array Value} {below : List Frame} {meth : Method} {c : Code} {Q : State → Prop} {D : va_G} {cl : List vw_C} {A : Nat → Prop} {cy : Nat → ClassId} {nL : Nat} {ρ : rv_Ho}
variable {cc : ByteArray} {own : String} {pc n : Nat} {E : List rv_E} {L : List (Nat × rv_V)} {St : List rv_V} {X : List rv_C} {cn sn : Nat} {NW : List (String × Nat × MethodName × String)} {st : Nat → Nat}
theorem rv_St.to {A' : Nat → Prop} {U : State} {locs : List Loc} (h : rv_St cy A s st) (hW : s.WarmedH U.vm) (hS : va_S A s.heap U.heap locs) (hA : ∀ q, A' q → A q) : rv_St cy A' U st := by
  obtain ⟨h1, h2, h3, h4, v, hc, h5⟩ := h
  exact ⟨((h1.kept hS.2.1).narrow hA).moved hW.alike, h2.warm hW, h3.warm hW, ((h4.kept hS.2.1).narrow hA).moved hW.alike, v, hc, ((h5.kept hS.2.1).narrow hA).moved hW.alike⟩
theorem rv_St.same {U : State} (h : rv_St cy A s st) (hv : U.vm = s.vm) (hh : U.heap = s.heap) : rv_St cy A U st := by
  obtain ⟨h1, h2, h3, h4, v, hc, h5⟩ := h
  have ha : s.vm.Alike U.vm := by rw [hv]; exact Vm.Alike.refl _
  unfold rv_St
  rw [hh]
  exact ⟨h1.moved ha, h2.same hv, h3.same hv, h4.moved ha, v, hc, h5.moved ha⟩
theorem rv_blind {av : List Value} {g : rv_G} {sz : Nat} : FrameBlind (va_Pc av (rv_B NW D cl cy g X sz)) := by
  intro a U fr mk q
  obtain ⟨q0, q1, q2, q3, q4, q5, q6⟩ := q
  exact ⟨q0, q1, q2, va_K.moved (u := U) (U := U.calling fr mk a) (Vm.Alike.refl U.vm) q3, q4, fun z hz => va_Nw.same rfl rfl (q5 z hz), q6.same rfl rfl⟩
theorem rv_moved {av : List Value} {g : rv_G} {H : Heap} (hK : va_K D cl (rv_tys cy) s) (hN : rv_NWs NW s) (hP : va_P D cl (rv_w cy g X) H) (hD : va_D A (rv_w cy g X)) (hSt : rv_St cy A s st) (hgs : g.2.2.2 = st) {locs : List Loc} (hS : va_S A s.heap H locs) (hF : ∀ q, va_A (rv_w cy g X) H.size q → A q) : ∀ U : State, U.heap = H → s.WarmedH U.vm → va_Pc av (rv_B NW D cl cy g X H.size) av.toArray U := by
  intro U hU hW
  exact ⟨rfl, by rw [hU], by rw [hU]; exact hP, va_K.moved hW.alike hK, hD.weaken (fun _ _ _ _ => trivial), fun z hz => va_Nw.warmM hW (hN z hz), by rw [hgs]; exact hSt.to hW (by rw [hU]; exact hS) hF⟩
theorem rv_run {K : rv_K} {g : rv_G} {ls : Array Slot} {H : Heap} {locs : List Loc} {rest st0 : List Value} {a : Array Value} (hr : va_Run p l e R s m args below meth c H locs cn sn K.2.2.2.2.1 K.2.2.2.2.2 (F0 m pc ls st0) rest (rv_Qc D cl cy g K (va_A (rv_w cy g K.2.2.1) H.size) a) (va_A (rv_w cy g K.2.2.1) H.size)) (hS : va_S A s.heap H locs) (hF : ∀ q, va_A (rv_w cy g K.2.2.1) H.size q → A q)
    (kk : ∀ o ∈ K.2.2.2.1, ∀ (h : rv_G) (H1 : Heap) (locs1 : List Loc), rv_post g h K o → va_P D cl (rv_w cy h o.2.2.2) H1 → va_D A (rv_w cy h o.2.2.2) → va_S A s.heap H1 locs1 → W p l e R s m args below meth c H1 locs1 (cn + K.2.2.2.2.1) (sn + K.2.2.2.2.2) Q (F0 m (pc + 3) ls ((o.2.2.1.map (rv_v h)).toList ++ rest))) :
    W p l e R s m args below meth c H locs cn sn Q (F0 m pc ls st0) := by
  intro T hT X
  obtain ⟨v, st₀, t, T', Lc, h0, X', hL, e1, e2, ⟨⟨o, ho, h, hp, hv, hP, hD⟩, hz, hk⟩, st⟩ := hr T hT X
  have hv : v = o.2.2.1.map (rv_v h) := by injection hv
  subst hv
  rw [h0] at hz hk
  obtain ⟨t2, a1, b1⟩ := kk o ho h T'.heap (locs ++ Lc) hp (by rw [e1]; exact hP) (hD.weaken fun k q _ z => hF q.1 z)
    ⟨Nat.le_trans hS.1 (by rw [e1]; exact hz), fun q h1 h2 => by rw [e1, hk q (Nat.lt_of_lt_of_le h1 hS.1) (fun z => h2 (hF q z))]; exact hS.2.1 q h1 h2, fun q hq => by
      rcases List.mem_append.mp hq with z | z
      · exact hS.2.2 q z
      · exact hF _ (hL q z)⟩ T' rfl X'
  exact ⟨t2, st t2 a1, b1⟩
theorem rv_freeA {g : rv_G} {H : Heap} {locs : List Loc} (hA : ∀ q, s.heap.size ≤ q → A q) (hD : va_D A (rv_w cy g X)) (hS : va_S A s.heap H locs) : ∀ q, va_A (rv_w cy g X) H.size q → A q := by
  intro q h
  rcases h with ⟨k, ee, h⟩ | h
  · exact hD.2 k (q, ee) h
  · exact hA q (Nat.le_trans hS.1 h)
variable {y y0 : MethodName} {bytes : ByteArray} {maxL idx : Nat} {ret ret0 : Option FieldType} {rm : Room} {K : rv_K}
theorem rv_cV (Cx : rv_Cx p s m args c cc own nL (rv_ws y0 cc nL ret0) D cl cy A st) (hN : rv_NWs NW s) (hM : rv_Met NW l D cl cy y (rv_ws y bytes maxL ret) rm K) (hY : rv_Yi y bytes maxL ret n) (hi : Jvm.Cond.instanceMethod y ∈ rv_tbl) (hse : Jvm.Cond.selects y.cls y y ∈ rv_tbl) (hl : Jvm.Cond.methodLink own idx y ∈ rv_tbl) (hdg : decode cc pc = .ok (.invokevirtual idx, 3))
    (hR : rm.frames + 1 ≤ R.frames ∧ 8 + (maxL + 11) + rm.locals ≤ R.locals) (hrc : rm.cells = K.2.2.2.2.1) (hrs : rm.slots = K.2.2.2.2.2) {q0 ci : Nat} {as : List rv_V} {fs : List rv_V} {T : u_T} {NN : Nat} (hargs : K.2.1 = (2, q0) :: as) (hn : as.length = n) (hrec : K.2.2.1[q0]? = some (.inl (ci, fs))) (hcl : cl[ci]? = some (y.cls, T, NN)) : rv_CallOk p l e R s m args below meth c Q D cl A cy nL st pc K := by
  obtain ⟨hx, hbb, hml, hown, hts, hK, hA, hSt⟩ := id Cx
  intro g ls H locs cn sn rest hsz hgs hpre hP hD hS hrest hce hsl kk
  have hF := rv_freeA hA hD hS
  have hpm := rv_moved (av := K.2.1.map (rv_v g)) hK hN hP hD hSt hgs hS hF
  have hm := hM g H.size hpre
  rw [hargs] at hm hpm ⊢
  have cw : CallW R s args own y.cls idx y bytes maxL ret (rv_ws y bytes maxL ret) rm K.2.2.2.2.1 K.2.2.2.2.2 n := ⟨callB_of n hts (rv_ws_good hY) rfl hrc hrs (hts _ (List.mem_cons_of_mem _ hY.1.2)) (hts _ (List.mem_cons_of_mem _ hl)) hY.2 hR, hts _ (List.mem_cons_of_mem _ hi), hts _ (List.mem_cons_of_mem _ hse)⟩
  refine rv_run (st0 := (((2, q0) :: as).map (rv_v g)).reverse ++ rest) (va_runV (As := as.map (rv_v g)) (rest := rest) (b := g.2.1 q0) ⟨hx, hbb, hml, hown, hts⟩ hm cw ⟨rv_blind, va_recv hK hP hcl (rv_w_at hrec), hpm⟩ rfl (by rw [List.length_map]; exact hn) hsz ?_ (lv_room hrest) hdg ⟨hce, hsl⟩) hS hF kk
  show (rv_v g (2, q0) :: as.map (rv_v g)).reverse ++ rest = (as.map (rv_v g)).reverse ++ .ref (g.2.1 q0) :: rest
  rw [List.reverse_cons, List.append_assoc]
  rfl
theorem rv_cVT (Cx : rv_Cx p s m args c cc own nL (rv_ws y0 cc nL ret0) D cl cy A st) (hN : rv_NWs NW s) (hM : rv_Met NW l D cl cy y (rv_ws y bytes maxL ret) rm K) (hY : rv_Yi y bytes maxL ret n) (hi : Jvm.Cond.instanceMethod y ∈ rv_tbl) (hse : Jvm.Cond.selects y.cls y y ∈ rv_tbl) (hl : Jvm.Cond.methodLink own idx y ∈ rv_tbl) (hdg : decode cc pc = .ok (.invokevirtual idx, 3))
    (hR : rm.frames + 1 ≤ R.frames ∧ 8 + (maxL + 11) + rm.locals ≤ R.locals) (hrc : rm.cells = K.2.2.2.2.1) (hrs : rm.slots = K.2.2.2.2.2) {k0 : Nat} {as : List rv_V} (hargs : K.2.1 = (4, 2 * k0) :: as) (hn : as.length = n) (hk0 : k0 < 2) (hcls : y.cls = "java/lang/String") : rv_CallOk p l e R s m args below meth c Q D cl A cy nL st pc K := by
  obtain ⟨hx, hbb, hml, hown, hts, hK, hA, hSt⟩ := id Cx
  intro g ls H locs cn sn rest hsz hgs hpre hP hD hS hrest hce hsl kk
  have hF := rv_freeA hA hD hS
  have hpm := rv_moved (av := K.2.1.map (rv_v g)) hK hN hP hD hSt hgs hS hF
  have hm := hM g H.size hpre
  rw [hargs] at hm hpm ⊢
  have cw : CallW R s args own y.cls idx y bytes maxL ret (rv_ws y bytes maxL ret) rm K.2.2.2.2.1 K.2.2.2.2.2 n := ⟨callB_of n hts (rv_ws_good hY) rfl hrc hrs (hts _ (List.mem_cons_of_mem _ hY.1.2)) (hts _ (List.mem_cons_of_mem _ hl)) hY.2 hR, hts _ (List.mem_cons_of_mem _ hi), hts _ (List.mem_cons_of_mem _ hse)⟩
  refine rv_run (st0 := (((4, 2 * k0) :: as).map (rv_v g)).reverse ++ rest) (va_runV (As := as.map (rv_v g)) (rest := rest) (b := g.2.2.2 (2 * k0)) ⟨hx, hbb, hml, hown, hts⟩ hm cw ⟨rv_blind, by rw [hcls, hgs]; exact vk_recv (adK := fun i => st (2 * i)) (adV := fun i => st (2 * i + 1)) (i := k0) hSt.1 hk0 hS, hpm⟩ rfl (by rw [List.length_map]; exact hn) hsz ?_ (lv_room hrest) hdg ⟨hce, hsl⟩) hS hF kk
  show (rv_v g (4, 2 * k0) :: as.map (rv_v g)).reverse ++ rest = (as.map (rv_v g)).reverse ++ .ref (g.2.2.2 (2 * k0)) :: rest
  rw [List.reverse_cons, List.append_assoc]
  rfl
theorem rv_cS (Cx : rv_Cx p s m args c cc own nL (rv_ws y0 cc nL ret0) D cl cy A st) (hN : rv_NWs NW s) (hM : rv_Met NW l D cl cy y (rv_ws y bytes maxL ret) rm K) (hY : rv_Yi y bytes maxL ret n) (hi : Jvm.Cond.static y ∈ rv_tbl) (hl : Jvm.Cond.methodLink own idx y ∈ rv_tbl) (hdg : decode cc pc = .ok (.invokestatic idx, 3))
    (hR : rm.frames + 1 ≤ R.frames ∧ 8 + (maxL + 11) + rm.locals ≤ R.locals) (hrc : rm.cells = K.2.2.2.2.1) (hrs : rm.slots = K.2.2.2.2.2) (hn : K.2.1.length = n) : rv_CallOk p l e R s m args below meth c Q D cl A cy nL st pc K := by
  obtain ⟨hx, hbb, hml, hown, hts, hK, hA, hSt⟩ := id Cx
  intro g ls H locs cn sn rest hsz hgs hpre hP hD hS hrest hce hsl kk
  have hF := rv_freeA hA hD hS
  have hpm := rv_moved (av := K.2.1.map (rv_v g)) hK hN hP hD hSt hgs hS hF
  have hm := hM g H.size hpre
  have cw : CallB R s args own idx y bytes maxL ret (rv_ws y bytes maxL ret) rm K.2.2.2.2.1 K.2.2.2.2.2 n := callB_of n hts (rv_ws_good hY) rfl hrc hrs (hts _ (List.mem_cons_of_mem _ hY.1.2)) (hts _ (List.mem_cons_of_mem _ hl)) hY.2 hR
  exact rv_run (va_runS (As := K.2.1.map (rv_v g)) (rest := rest) ⟨hx, hbb, hml, hown, hts⟩ hm ⟨cw, hts _ (List.mem_cons_of_mem _ hi)⟩ ⟨rv_blind, hpm⟩ rfl (by rw [List.length_map]; exact hn) hsz rfl (lv_room hrest) hdg ⟨hce, hsl⟩) hS hF kk
theorem rv_cI (Cx : rv_Cx p s m args c cc own nL (rv_ws y0 cc nL ret0) D cl cy A st) (hN : rv_NWs NW s) (hM : rv_Met NW l D cl cy y (rv_ws y bytes maxL none) rm K) (hY : rv_Yi y bytes maxL none n) (hi : Jvm.Cond.instanceMethod y ∈ rv_tbl) (hy1 : y.name = "<init>") (hl : Jvm.Cond.methodLink own idx y ∈ rv_tbl) (hdg : decode cc pc = .ok (.invokespecial idx, 3))
    (hR : rm.frames + 1 ≤ R.frames ∧ 8 + (maxL + 11) + rm.locals ≤ R.locals) (hrc : rm.cells = K.2.2.2.2.1) (hrs : rm.slots = K.2.2.2.2.2) {q0 : Nat} {as : List rv_V} (hargs : K.2.1 = (2, q0) :: as) (hn : as.length = n) : rv_CallOk p l e R s m args below meth c Q D cl A cy nL st pc K := by
  obtain ⟨hx, hbb, hml, hown, hts, hK, hA, hSt⟩ := id Cx
  intro g ls H locs cn sn rest hsz hgs hpre hP hD hS hrest hce hsl kk
  have hF := rv_freeA hA hD hS
  have hpm := rv_moved (av := K.2.1.map (rv_v g)) hK hN hP hD hSt hgs hS hF
  have hm := hM g H.size hpre
  rw [hargs] at hm hpm ⊢
  have cw : CallB R s args own idx y bytes maxL none (rv_ws y bytes maxL none) rm K.2.2.2.2.1 K.2.2.2.2.2 n := callB_of n hts (rv_ws_good hY) rfl hrc hrs (hts _ (List.mem_cons_of_mem _ hY.1.2)) (hts _ (List.mem_cons_of_mem _ hl)) hY.2 hR
  refine rv_run (st0 := (((2, q0) :: as).map (rv_v g)).reverse ++ rest) (va_runI (As := as.map (rv_v g)) (rest := rest) (b := g.2.1 q0) ⟨hx, hbb, hml, hown, hts⟩ hm ⟨cw, hy1, hts _ (List.mem_cons_of_mem _ hi)⟩ ⟨rv_blind, hpm⟩ rfl (by rw [List.length_map]; exact hn) hsz ?_ (lv_room hrest) hdg ⟨hce, hsl⟩) hS hF kk
  show (rv_v g (2, q0) :: as.map (rv_v g)).reverse ++ rest = (as.map (rv_v g)).reverse ++ .ref (g.2.1 q0) :: rest
  rw [List.reverse_cons, List.append_assoc]
  rfl
theorem rv_cN (Cx : rv_Cx p s m args c cc own nL (rv_ws y0 cc nL ret0) D cl cy A st) (hN : rv_NWs NW s) (hM : rv_Met NW l D cl cy y (rv_ws y bytes maxL none) rm K) (hY : rv_Yi y bytes maxL none n) (hi : Jvm.Cond.instanceMethod y ∈ rv_tbl) (hy1 : y.name = "<init>") {host : String} (hl : (own, idx, y, host) ∈ NW) (hdg : decode cc pc = .ok (.invokespecial idx, 3))
    (hR : rm.frames + 1 ≤ R.frames ∧ 8 + (maxL + 11) + rm.locals ≤ R.locals) (hrc : rm.cells = K.2.2.2.2.1) (hrs : rm.slots = K.2.2.2.2.2) {q0 : Nat} {as : List rv_V} (hargs : K.2.1 = (2, q0) :: as) (hn : as.length = n) : rv_CallOk p l e R s m args below meth c Q D cl A cy nL st pc K := by
  obtain ⟨hx, hbb, hml, hown, hts, hK, hA, hSt⟩ := id Cx
  intro g ls H locs cn sn rest hsz hgs hpre hP hD hS hrest hce hsl kk
  have hF := rv_freeA hA hD hS
  have hpm := rv_moved (av := K.2.1.map (rv_v g)) hK hN hP hD hSt hgs hS hF
  have hm := hM g H.size hpre
  rw [hargs] at hm hpm ⊢
  have cw := va_cnB (R := R) (own := own) (host := host) (index := idx) (rm := rm) (mc := K.2.2.2.2.1) (ms := K.2.2.2.2.2) n hts (rv_ws_good hY) rfl hrc hrs (hN _ hl) (hts _ (List.mem_cons_of_mem _ hY.1.2)) hY.2 hR
  refine rv_run (st0 := (((2, q0) :: as).map (rv_v g)).reverse ++ rest) (va_runIN (As := as.map (rv_v g)) (rest := rest) (b := g.2.1 q0) ⟨hx, hbb, hml, hown, hts⟩ hm ⟨cw, hy1, hts _ (List.mem_cons_of_mem _ hi)⟩ ⟨rv_blind, hpm⟩ rfl (by rw [List.length_map]; exact hn) hsz ?_ (lv_room hrest) hdg ⟨hce, hsl⟩) hS hF kk
  show (rv_v g (2, q0) :: as.map (rv_v g)).reverse ++ rest = (as.map (rv_v g)).reverse ++ .ref (g.2.1 q0) :: rest
  rw [List.reverse_cons, List.append_assoc]
  rfl
end
/-! the end of a method -/
def rv_retX (RL : List rv_Rl) (K : rv_K) (o : rv_O) (σ : List Nat) (E : List rv_E) (X : List rv_C) (cn sn : Nat) : Bool := match rv_mX E σ o.2.2.2 X with
  | some σ' => rv_mE RL E σ' K.1.length o.2.1 (σ'.drop K.1.length) && (o.1.all (fun q => rv_bd1 E q.1 q.2.1 q.2.2) && (Nat.ble cn K.2.2.2.2.1 && Nat.ble sn K.2.2.2.2.2))
  | none => false
def rv_ret1 (RL : List rv_Rl) (K : rv_K) (res : Option rv_V) (E : List rv_E) (X : List rv_C) (cn sn : Nat) (o : rv_O) : Bool := match o.2.2.1, res with
  | some t, some a => match rv_m1 E (List.range K.1.length) t a with
    | some σ => rv_retX RL K o σ E X cn sn
    | none => false
  | none, none => rv_retX RL K o (List.range K.1.length) E X cn sn
  | _, _ => false
def rv_ret (RL : List rv_Rl) (K : rv_K) (res : Option rv_V) (E : List rv_E) (X : List rv_C) (cn sn : Nat) : Bool := K.2.2.2.1.any (rv_ret1 RL K res E X cn sn)
/-- what is held of the entry's valuation -/
def rv_ho (g : rv_G) (K : rv_K) : rv_Ho := ((List.range K.1.length).map (fun i => (i, rv_z g i)), (List.range K.2.2.1.length).map g.2.1, g.2.2.2)
theorem rv_range_at {n i : Nat} (h : i < n) (τ : List Nat) : (List.range n ++ τ)[i]? = some i := by
  rw [List.getElem?_append_left (by rw [List.length_range]; exact h), List.getElem?_range h]
section
variable {D : va_G} {cl : List vw_C} {A : Nat → Prop} {H0 : Heap} {cy : Nat → ClassId} {nL : Nat} {ρ : rv_Ho} {g g0 : rv_G} {E : List rv_E} {L : List (Nat × rv_V)} {St : List rv_V} {X : List rv_C} {ls : Array Slot} {H : Heap} {locs : List Loc} {cn sn : Nat} {K : rv_K} {o : rv_O} {RL : List rv_Rl}
theorem rv_retX_ok (hRL : ∀ r ∈ RL, rv_RlOk r) (hwf : rv_wfK K = true) (ho : o ∈ K.2.2.2.1) (RR : rv_R D cl A H0 cy nL ρ g E L St X ls H locs) (hρ1 : ∀ q ∈ (rv_ho g0 K).1, q ∈ ρ.1) (hρ2 : ρ.2 = (rv_ho g0 K).2) {σ : List Nat} {τ0 : List Nat} (hσ : σ = List.range K.1.length ++ τ0) (h : rv_retX RL K o σ E X cn sn = true) : ∃ σ' τ, σ' = σ ++ τ ∧ rv_post g0 (rv_gs g σ') K o ∧ rv_w cy (rv_gs g σ') o.2.2.2 = rv_w cy g X ∧ cn ≤ K.2.2.2.2.1 ∧ sn ≤ K.2.2.2.2.2 := by
  obtain ⟨he, hx, -, hh, -⟩ := RR
  unfold rv_wfK at hwf
  rw [Bool.and_eq_true, Bool.and_eq_true, Bool.and_eq_true] at hwf
  have hwo := List.all_eq_true.mp hwf.2.2.2 o ho
  unfold rv_wfO at hwo
  rw [Bool.and_eq_true] at hwo
  unfold rv_retX at h
  split at h
  · rename_i σ' h1
    rw [Bool.and_eq_true, Bool.and_eq_true, Bool.and_eq_true, Nat.ble_eq, Nat.ble_eq] at h
    obtain ⟨k1, kc, k2, k3⟩ := h
    obtain ⟨⟨τ, eτ⟩, lX, q2, q3⟩ := rv_mX_w0 (cy := cy) he h1 hx
    obtain ⟨lσ, q4⟩ := rv_mE_ok hRL he (fun k => by rw [List.getElem?_drop]) k1
    have eσ : σ' = List.range K.1.length ++ (τ0 ++ τ) := by rw [eτ, hσ, List.append_assoc]
    have hle : K.1.length ≤ σ'.length := by
      rw [eσ, List.length_append, List.length_range]
      omega
    have hlen : σ'.length = K.1.length + o.2.1.length := by
      rw [List.length_drop] at lσ
      omega
    have hz : ∀ i, i < K.1.length → rv_z (rv_gs g σ') i = rv_z g i := fun i hi => rv_gs_z (by rw [eσ]; exact rv_range_at hi _)
    refine ⟨σ', τ, eτ, ⟨fun i hi => ?_, fun k hk => ?_, ?_, fun q hq => ?_, fun i b hb => ?_, q3⟩, q2, k2, k3⟩
    · rw [hz i hi]
      exact (hh.1 (i, rv_z g0 i) (hρ1 _ (List.mem_map.mpr ⟨i, List.mem_range.mpr hi, rfl⟩))).2
    · have h5 : ρ.2.1[k]? = some (g0.2.1 k) := by
        rw [hρ2]
        show ((List.range K.2.2.1.length).map g0.2.1)[k]? = _
        rw [List.getElem?_map, List.getElem?_range hk]
        rfl
      exact (hh.2.1 k _ h5).2
    · show g.2.2.2 = g0.2.2.2
      rw [hh.2.2, hρ2]
      rfl
    · have hq1 := List.all_eq_true.mp hwo.1 q hq
      rw [Nat.ble_eq] at hq1
      have e1 : (rv_gs g σ').1 q.1 = g.1 q.1 := congrArg Prod.fst (hz q.1 (by omega))
      rw [e1]
      exact rv_bd1_ok he (List.all_eq_true.mp kc q hq)
    · obtain ⟨s1, r1, r2, r3, r4, r5, r6⟩ := q4 i b hb
      rw [hlen] at r6
      exact ⟨r3, r4, r5, r6⟩
  · cases h
theorem rv_ret_ok (hRL : ∀ r ∈ RL, rv_RlOk r) (hwf : rv_wfK K = true) (RR : rv_R D cl A H0 cy nL ρ g E L St X ls H locs) (hρ1 : ∀ q ∈ (rv_ho g0 K).1, q ∈ ρ.1) (hρ2 : ρ.2 = (rv_ho g0 K).2) {res : Option rv_V} (h : rv_ret RL K res E X cn sn = true) : ∃ o ∈ K.2.2.2.1, ∃ h : rv_G, rv_post g0 h K o ∧ res.map (rv_v g) = o.2.2.1.map (rv_v h) ∧ rv_w cy h o.2.2.2 = rv_w cy g X ∧ cn ≤ K.2.2.2.2.1 ∧ sn ≤ K.2.2.2.2.2 := by
  unfold rv_ret at h
  obtain ⟨o, ho, hq⟩ := List.any_eq_true.mp h
  clear h
  refine ⟨o, ho, ?_⟩
  unfold rv_ret1 at hq
  split at hq
  · rename_i t a ht
    split at hq
    · rename_i σ h1
      obtain ⟨⟨τ0, e0⟩, q0⟩ := rv_m1_ok RR.1 h1
      obtain ⟨σ', τ, eτ, p1, p2, p3, p4⟩ := rv_retX_ok hRL hwf ho RR hρ1 hρ2 e0 hq
      refine ⟨rv_gs g σ', p1, ?_, p2, p3, p4⟩
      rw [ht]
      show some (rv_v g a) = some (rv_v (rv_gs g σ') t)
      rw [eτ, q0 τ]
    · cases hq
  · rename_i ht
    obtain ⟨σ', τ, eτ, p1, p2, p3, p4⟩ := rv_retX_ok hRL hwf ho RR hρ1 hρ2 (τ0 := []) (by simp) hq
    exact ⟨rv_gs g σ', p1, by rw [ht]; rfl, p2, p3, p4⟩
  · cases hq
end
def rv_rt (ret : Option FieldType) : Nat := match ret with
  | none => 0
  | some .int => 1
  | some .boolean => 2
  | some .long => 3
  | some .char => 4
  | some .byte => 5
  | _ => 9
def rv_end (RL : List rv_Rl) (K : rv_K) (rt : Nat) (i : Instr) (E : List rv_E) (St : List rv_V) (X : List rv_C) (cn sn : Nat) : Bool := match i, St with
  | .return_, [] => Nat.beq rt 0 && rv_ret RL K none E X cn sn
  | .ireturn, [(0, x)] => (Nat.beq rt 1 || ((Nat.beq rt 2 && rv_in01 E x) || ((Nat.beq rt 4 && rv_bd1 E x 0 255) || (Nat.beq rt 5 && rv_bd1 E x 0 0)))) && rv_ret RL K (some (0, x)) E X cn sn
  | .lreturn, [(1, x)] => Nat.beq rt 3 && rv_ret RL K (some (1, x)) E X cn sn
  | _, _ => false
section
variable {p : Program} {l : Launch} {e : Env} {R : Room} {s : State} {m : MethodId} {args : Array Value} {below : List Frame} {meth : Method} {c : Code} {D : va_G} {cl : List vw_C} {A : Nat → Prop} {cy : Nat → ClassId} {nL : Nat} {ρ : rv_Ho}
variable {cc : ByteArray} {own : String} {Ts : List Jvm.Cond} {pc : Nat} {E : List rv_E} {L : List (Nat × rv_V)} {St : List rv_V} {X : List rv_C} {cn sn : Nat} {K : rv_K} {g0 : rv_G} {ret : Option FieldType} {RL : List rv_Rl} {st : Nat → Nat}
theorem rv_end_ok (hRL : ∀ r ∈ RL, rv_RlOk r) (hwf : rv_wfK K = true) (Cx : rv_Cx p s m args c cc own nL Ts D cl cy A st) (hr : meth.sig.returnType = ret) (hlocks : meth.locks = false) (hρ1 : ∀ q ∈ (rv_ho g0 K).1, q ∈ ρ.1) (hρ2 : ρ.2 = (rv_ho g0 K).2) {i : Instr} (hdg : decode cc pc = .ok (i, 1)) (h : rv_end RL K (rv_rt ret) i E St X cn sn = true) : rv_Ok p l e R s m args below meth c (MQ below (rv_Qc D cl cy g0 K A) args s K.2.2.2.2.1 K.2.2.2.2.2 A) D cl A cy nL ρ pc E L St X cn sn := by
  obtain ⟨hx, hbb, -⟩ := Cx
  intro g ls H locs RR
  have fin : ∀ (res : Option rv_V), rv_ret RL K res E X cn sn = true → (∀ t : State, t.heap = H → s.WarmedH t.vm → rv_Qc D cl cy g0 K A args s (.returned (res.map (rv_v g))) t) ∧ cn ≤ K.2.2.2.2.1 ∧ sn ≤ K.2.2.2.2.2 := by
    intro res hres
    obtain ⟨o, ho, h, p1, p2, p3, p4, p5⟩ := rv_ret_ok hRL hwf RR hρ1 hρ2 hres
    refine ⟨fun t ht _ => ⟨⟨o, ho, h, p1, by rw [p2], ?_, ?_⟩, RR.2.2.2.2.2.2.2.F ht⟩, p4, p5⟩
    · rw [p3, ht]; exact RR.2.2.2.2.2.1
    · rw [p3]; exact RR.2.2.2.2.2.2.1
  unfold rv_end at h
  split at h
  · rw [Bool.and_eq_true] at h
    obtain ⟨f1, f2, f3⟩ := fin none h.2
    have hret : ret = none := by
      have h1 : rv_rt ret = 0 := Nat.eq_of_beq_eq_true h.1
      cases ret with
      | none => rfl
      | some t => cases t <;> cases h1
    subst hret
    exact W.widen f2 f3 (W.vret hx hbb hr f1 RR.2.2.2.2.2.2.2.2.2 hdg hlocks)
  · rename_i x
    rw [Bool.and_eq_true] at h
    obtain ⟨f1, f2, f3⟩ := fin (some (0, x)) h.2
    have h1 := h.1
    rw [Bool.or_eq_true, Bool.or_eq_true, Bool.or_eq_true, Bool.and_eq_true, Bool.and_eq_true, Bool.and_eq_true] at h1
    rcases h1 with h1 | ⟨h1, h2⟩ | ⟨h1, h2⟩ | ⟨h1, h2⟩
    · have hret : ret = some .int := by
        have h1 : rv_rt ret = 1 := Nat.eq_of_beq_eq_true h1
        cases ret with
        | none => cases h1
        | some t => cases t <;> first | rfl | cases h1
      subst hret
      exact W.widen f2 f3 (W.iret hx hbb hr f1 RR.2.2.2.2.2.2.2.2.2 hdg hlocks)
    · have hret : ret = some .boolean := by
        have h1 : rv_rt ret = 2 := Nat.eq_of_beq_eq_true h1
        cases ret with
        | none => cases h1
        | some t => cases t <;> first | rfl | cases h1
      subst hret
      have hfit := rv_fit_ok (t := .boolean) (a := (0, x)) RR.1 (by
        show (Nat.beq 0 0 && rv_in01 E x) = true
        rw [h2]; rfl)
      exact W.widen f2 f3 (W.zret hx hbb hr hfit.1 f1 RR.2.2.2.2.2.2.2.2.2 hdg hlocks)
    · have hret : ret = some .char := by
        have h1 : rv_rt ret = 4 := Nat.eq_of_beq_eq_true h1
        cases ret with
        | none => cases h1
        | some t => cases t <;> first | rfl | cases h1
      subst hret
      have hb := rv_bd1_ok RR.1 h2
      exact W.widen f2 f3 (W.zret hx hbb hr (rs_small hb.1 hb.2).2 f1 RR.2.2.2.2.2.2.2.2.2 hdg hlocks)
    · have hret : ret = some .byte := by
        have h1 : rv_rt ret = 5 := Nat.eq_of_beq_eq_true h1
        cases ret with
        | none => cases h1
        | some t => cases t <;> first | rfl | cases h1
      subst hret
      have hb := rv_bd1_ok RR.1 h2
      have hz : g.1 x = 0 := by omega
      have hn : narrow .byte (.int (Int32.ofInt (g.1 x))) = .int (Int32.ofInt (g.1 x)) := by rw [hz]; decide
      exact W.widen f2 f3 (W.zret hx hbb hr hn f1 RR.2.2.2.2.2.2.2.2.2 hdg hlocks)
  · rename_i x
    rw [Bool.and_eq_true] at h
    obtain ⟨f1, f2, f3⟩ := fin (some (1, x)) h.2
    have hret : ret = some .long := by
      have h1 : rv_rt ret = 3 := Nat.eq_of_beq_eq_true h.1
      cases ret with
      | none => cases h1
      | some t => cases t <;> first | rfl | cases h1
    subst hret
    exact W.widen f2 f3 (W.lret hx hbb hr f1 RR.2.2.2.2.2.2.2.2.2 hdg hlocks)
  · cases h
end
