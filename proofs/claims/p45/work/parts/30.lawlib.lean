/-! the law: calls with another world beside, arguments off the script -/
theorem lw_swapP {D : va_G} {cl : List vw_C} {a b : va_W} {H : Heap} (h : va_P D cl (a ++ b) H) : va_P D cl (b ++ a) H := by
  intro k q hk
  have hm : q ∈ a ++ b := by
    rcases List.mem_append.mp (List.mem_of_getElem? hk) with z | z
    · exact List.mem_append_right _ z
    · exact List.mem_append_left _ z
  obtain ⟨i, hi⟩ := List.getElem?_of_mem hm
  exact h i q hi
theorem lw_at_r {α : Type} {a b : List α} {k : Nat} {q : α} (h : b[k]? = some q) : (a ++ b)[a.length + k]? = some q := by
  rw [List.getElem?_append_right (by omega), show a.length + k - a.length = k by omega]
  exact h
theorem lw_at_l {α : Type} {a b : List α} {k : Nat} {q : α} (h : a[k]? = some q) : (a ++ b)[k]? = some q := by
  rw [List.getElem?_append_left (List.getElem?_eq_some_iff.mp h).1]
  exact h
theorem lw_D_l {A : Nat → Prop} {a b : va_W} (h : va_D A (a ++ b)) : va_D A a := ⟨fun i j p q hi hj e => h.1 i j p q (lw_at_l hi) (lw_at_l hj) e, fun k q hk => h.2 k q (lw_at_l hk)⟩
theorem lw_D_r {A : Nat → Prop} {a b : va_W} (h : va_D A (a ++ b)) : va_D A b := ⟨fun i j p q hi hj e => by
  have := h.1 _ _ p q (lw_at_r (a := a) hi) (lw_at_r (a := a) hj) e
  omega, fun k q hk => h.2 _ q (lw_at_r (a := a) hk)⟩
theorem lw_D_x {A : Nat → Prop} {a b : va_W} (h : va_D A (a ++ b)) (i j : Nat) (p q : Nat × va_E) (hi : a[i]? = some p) (hj : b[j]? = some q) : p.1 ≠ q.1 := fun e => by
  have h1 := h.1 _ _ p q (lw_at_l hi) (lw_at_r (a := a) hj) e
  have h2 := (List.getElem?_eq_some_iff.mp hi).1
  omega
theorem lw_swapD {A : Nat → Prop} {a b : va_W} (h : va_D A (a ++ b)) : va_D A (b ++ a) := va_D.app (lw_D_r h) (lw_D_l h) (fun i j p q hi hj e => lw_D_x h j i q p hj hi e.symm)
/-- a world whose cells are another's, in another order -/
def lw_Mv (h h' : rv_G) (X X' : List rv_C) : Prop := ∀ cy : Nat → ClassId, ∃ π : Nat → Nat, (∀ i j, π i = π j → i = j) ∧ ∀ k, (rv_w cy h' X')[k]? = (rv_w cy h X)[π k]?
theorem lw_Mv.P {h h' : rv_G} {X X' : List rv_C} (M : lw_Mv h h' X X') {D : va_G} {cl : List vw_C} {cy : Nat → ClassId} {wr : va_W} {H : Heap} (hP : va_P D cl (wr ++ rv_w cy h X) H) : va_P D cl (wr ++ rv_w cy h' X') H := by
  obtain ⟨π, -, h2⟩ := M cy
  refine va_P.app (fun k q hk => hP k q (lw_at_l hk)) (fun k q hk => ?_)
  rw [h2] at hk
  exact hP _ q (lw_at_r (a := wr) hk)
theorem lw_Mv.D {h h' : rv_G} {X X' : List rv_C} (M : lw_Mv h h' X X') {A : Nat → Prop} {cy : Nat → ClassId} {wr : va_W} (hD : va_D A (wr ++ rv_w cy h X)) : va_D A (wr ++ rv_w cy h' X') := by
  obtain ⟨π, h1, h2⟩ := M cy
  have hr := lw_D_r hD
  refine va_D.app (lw_D_l hD) ⟨fun i j p q hi hj e => ?_, fun k q hk => ?_⟩ (fun i j x y hx hy e => ?_)
  · rw [h2] at hi hj
    exact h1 i j (hr.1 _ _ p q hi hj e)
  · rw [h2] at hk
    exact hr.2 _ q hk
  · rw [h2] at hy
    exact lw_D_x hD i _ x y hx hy e
theorem lw_Mv.same {h h' : rv_G} {X X' : List rv_C} (hw : ∀ cy, rv_w cy h' X' = rv_w cy h X) : lw_Mv h h' X X' := fun cy => ⟨fun k => k, fun _ _ e => e, fun k => by rw [hw]⟩
section
variable {p : Program} {l : Launch} {e : Env} {R : Room} {s : State} {m : MethodId} {args : Array Value} {below : List Frame} {meth : Method} {c : Code} {Q : State → Prop} {D : va_G} {cl : List vw_C} {A : Nat → Prop} {cy : Nat → ClassId} {st : Nat → Nat}
variable {cc : ByteArray} {own : String} {pc n nL : Nat} {cn sn : Nat} {NW : List (String × Nat × MethodName × String)} {K : rv_K} {g : rv_G} {ls : Array Slot} {H : Heap} {locs : List Loc} {rest : List Value} {wr : va_W}
theorem lw_run {st0 : List Value} {a : Array Value} (hr : va_Run p l e R s m args below meth c H locs cn sn K.2.2.2.2.1 K.2.2.2.2.2 (F0 m pc ls st0) rest (rv_Qc D cl cy g K (va_A (rv_w cy g K.2.2.1) H.size) a) (va_A (rv_w cy g K.2.2.1) H.size)) (hS : va_S A s.heap H locs) (hA : ∀ q, s.heap.size ≤ q → A q) (hPw : va_P D cl (rv_w cy g K.2.2.1 ++ wr) H) (hDw : va_D A (rv_w cy g K.2.2.1 ++ wr))
    (kk : ∀ o ∈ K.2.2.2.1, ∀ (h : rv_G) (H1 : Heap) (locs1 : List Loc), rv_post g h K o → va_P D cl (wr ++ rv_w cy h o.2.2.2) H1 → va_D A (wr ++ rv_w cy h o.2.2.2) → va_S A s.heap H1 locs1 → W p l e R s m args below meth c H1 locs1 (cn + K.2.2.2.2.1) (sn + K.2.2.2.2.2) Q (F0 m (pc + 3) ls ((o.2.2.1.map (rv_v h)).toList ++ rest))) :
    W p l e R s m args below meth c H locs cn sn Q (F0 m pc ls st0) := by
  intro T hT X
  obtain ⟨v, st₀, t, T', Lc, h0, X', hL, e1, e2, ⟨⟨o, ho, h, hp, hv, hP, hD⟩, hz, hk⟩, st⟩ := hr T hT X
  have hv : v = o.2.2.1.map (rv_v h) := by injection hv
  subst hv
  rw [h0] at hz hk
  have hF := rv_freeA hA (lw_D_l hDw) hS
  have apart : ∀ (k : Nat) (q : Nat × va_E), wr[k]? = some q → q.1 < H.size ∧ ¬ va_A (rv_w cy g K.2.2.1) H.size q.1 := by
    intro k q hq
    have hlt := (hPw _ q (lw_at_r (a := rv_w cy g K.2.2.1) hq)).lt
    refine ⟨hlt, fun z => ?_⟩
    rcases z with ⟨k2, ee, z⟩ | z
    · exact lw_D_x hDw k2 k (q.1, ee) q z hq rfl
    · omega
  obtain ⟨t2, a1, b1⟩ := kk o ho h T'.heap (locs ++ Lc) hp
    (va_P.app (fun k q hq => by
      obtain ⟨z1, z2⟩ := apart k q hq
      exact (hPw _ q (lw_at_r (a := rv_w cy g K.2.2.1) hq)).kept (by rw [e1]; exact hk q.1 z1 z2)) (by rw [e1]; exact hP))
    (va_D.app (lw_D_r hDw) (hD.weaken fun k q _ z => hF q.1 z) (fun i j x y hx hy exy => (apart i x hx).2 (by rw [exy]; exact hD.2 j y hy)))
    ⟨Nat.le_trans hS.1 (by rw [e1]; exact hz), fun q h1 h2 => by rw [e1, hk q (Nat.lt_of_lt_of_le h1 hS.1) (fun z => h2 (hF q z))]; exact hS.2.1 q h1 h2, fun q hq => by
      rcases List.mem_append.mp hq with z | z
      · exact hS.2.2 q z
      · exact hF _ (hL q z)⟩ T' rfl X'
  exact ⟨t2, st t2 a1, b1⟩
variable {y : MethodName} {bytes : ByteArray} {maxL idx : Nat} {ret : Option FieldType} {rm : Room}
/-- the law's words are more: lw_tbl -/
theorem lw_good (hY : rv_Yi y bytes maxL ret n) : GoodIn lw_tbl (rv_ws y bytes maxL ret) := by
  intro w hw
  have hm : w ∈ rv_tbl := by
    rcases List.mem_cons.mp hw with h1 | h1
    · rw [h1]; exact hY.1.1
    · exact h1
  exact ⟨(List.mem_filter.mp hm).1, (rv_goodIn w hm).2⟩
theorem lw_in {w : Jvm.Cond} (h : w ∈ rv_tbl) : w ∈ lw_tbl := (List.mem_filter.mp h).1
theorem lw_cV (Cx : rv_Cx p s m args c cc own nL lw_tbl D cl cy A st) (hN : rv_NWs NW s) (hM : rv_Met NW l D cl cy y (rv_ws y bytes maxL ret) rm K) (hY : rv_Yi y bytes maxL ret n) (hi : Jvm.Cond.instanceMethod y ∈ rv_tbl) (hse : Jvm.Cond.selects y.cls y y ∈ rv_tbl) (hl : Jvm.Cond.methodLink own idx y ∈ rv_tbl) (hdg : decode cc pc = .ok (.invokevirtual idx, 3))
    (hR : rm.frames + 1 ≤ R.frames ∧ 8 + (maxL + 11) + rm.locals ≤ R.locals) (hrc : rm.cells = K.2.2.2.2.1) (hrs : rm.slots = K.2.2.2.2.2) {q0 ci : Nat} {as : List rv_V} {fs : List rv_V} {T : u_T} {NN : Nat} (hargs : K.2.1 = (2, q0) :: as) (hn : as.length = n) (hrec : K.2.2.1[q0]? = some (.inl (ci, fs))) (hcl : cl[ci]? = some (y.cls, T, NN))
    (hsz : ls.size = nL) (hgs : g.2.2.2 = st) (hpre : rv_pre g K) (hPw : va_P D cl (rv_w cy g K.2.2.1 ++ wr) H) (hDw : va_D A (rv_w cy g K.2.2.1 ++ wr)) (hS : va_S A s.heap H locs) (hrest : (rest.map fun v => v.category).sum ≤ 8) (hce : cn + K.2.2.2.2.1 ≤ R.cells) (hsl : sn + K.2.2.2.2.2 ≤ R.slots)
    (kk : ∀ o ∈ K.2.2.2.1, ∀ (h : rv_G) (H1 : Heap) (locs1 : List Loc), rv_post g h K o → va_P D cl (wr ++ rv_w cy h o.2.2.2) H1 → va_D A (wr ++ rv_w cy h o.2.2.2) → va_S A s.heap H1 locs1 → W p l e R s m args below meth c H1 locs1 (cn + K.2.2.2.2.1) (sn + K.2.2.2.2.2) Q (F0 m (pc + 3) ls ((o.2.2.1.map (rv_v h)).toList ++ rest))) :
    W p l e R s m args below meth c H locs cn sn Q (F0 m pc ls ((K.2.1.map (rv_v g)).reverse ++ rest)) := by
  obtain ⟨hx, hbb, hml, hown, hts, hK, hA, hSt⟩ := id Cx
  have hP : va_P D cl (rv_w cy g K.2.2.1) H := fun k q hk => hPw k q (lw_at_l hk)
  have hpm := rv_moved (av := K.2.1.map (rv_v g)) hK hN hP (lw_D_l hDw) hSt hgs hS (rv_freeA hA (lw_D_l hDw) hS)
  have hm := hM g H.size hpre
  rw [hargs] at hm hpm ⊢
  have cw : CallW R s args own y.cls idx y bytes maxL ret (rv_ws y bytes maxL ret) rm K.2.2.2.2.1 K.2.2.2.2.2 n := ⟨callB_of n hts (lw_good hY) rfl hrc hrs (hts _ (lw_in hY.1.2)) (hts _ (lw_in hl)) hY.2 hR, hts _ (lw_in hi), hts _ (lw_in hse)⟩
  refine lw_run (st0 := (((2, q0) :: as).map (rv_v g)).reverse ++ rest) (va_runV (As := as.map (rv_v g)) (rest := rest) (b := g.2.1 q0) ⟨hx, hbb, hml, hown, hts⟩ hm cw ⟨rv_blind, va_recv hK hP hcl (rv_w_at hrec), hpm⟩ rfl (by rw [List.length_map]; exact hn) hsz ?_ (lv_room hrest) hdg ⟨hce, hsl⟩) hS hA hPw hDw kk
  show (rv_v g (2, q0) :: as.map (rv_v g)).reverse ++ rest = (as.map (rv_v g)).reverse ++ .ref (g.2.1 q0) :: rest
  rw [List.reverse_cons, List.append_assoc]
  rfl
theorem lw_cI (Cx : rv_Cx p s m args c cc own nL lw_tbl D cl cy A st) (hN : rv_NWs NW s) (hM : rv_Met NW l D cl cy y (rv_ws y bytes maxL none) rm K) (hY : rv_Yi y bytes maxL none n) (hi : Jvm.Cond.instanceMethod y ∈ rv_tbl) (hy1 : y.name = "<init>") (hl : Jvm.Cond.methodLink own idx y ∈ rv_tbl) (hdg : decode cc pc = .ok (.invokespecial idx, 3))
    (hR : rm.frames + 1 ≤ R.frames ∧ 8 + (maxL + 11) + rm.locals ≤ R.locals) (hrc : rm.cells = K.2.2.2.2.1) (hrs : rm.slots = K.2.2.2.2.2) {q0 : Nat} {as : List rv_V} (hargs : K.2.1 = (2, q0) :: as) (hn : as.length = n)
    (hsz : ls.size = nL) (hgs : g.2.2.2 = st) (hpre : rv_pre g K) (hPw : va_P D cl (rv_w cy g K.2.2.1 ++ wr) H) (hDw : va_D A (rv_w cy g K.2.2.1 ++ wr)) (hS : va_S A s.heap H locs) (hrest : (rest.map fun v => v.category).sum ≤ 8) (hce : cn + K.2.2.2.2.1 ≤ R.cells) (hsl : sn + K.2.2.2.2.2 ≤ R.slots)
    (kk : ∀ o ∈ K.2.2.2.1, ∀ (h : rv_G) (H1 : Heap) (locs1 : List Loc), rv_post g h K o → va_P D cl (wr ++ rv_w cy h o.2.2.2) H1 → va_D A (wr ++ rv_w cy h o.2.2.2) → va_S A s.heap H1 locs1 → W p l e R s m args below meth c H1 locs1 (cn + K.2.2.2.2.1) (sn + K.2.2.2.2.2) Q (F0 m (pc + 3) ls ((o.2.2.1.map (rv_v h)).toList ++ rest))) :
    W p l e R s m args below meth c H locs cn sn Q (F0 m pc ls ((K.2.1.map (rv_v g)).reverse ++ rest)) := by
  obtain ⟨hx, hbb, hml, hown, hts, hK, hA, hSt⟩ := id Cx
  have hP : va_P D cl (rv_w cy g K.2.2.1) H := fun k q hk => hPw k q (lw_at_l hk)
  have hpm := rv_moved (av := K.2.1.map (rv_v g)) hK hN hP (lw_D_l hDw) hSt hgs hS (rv_freeA hA (lw_D_l hDw) hS)
  have hm := hM g H.size hpre
  rw [hargs] at hm hpm ⊢
  have cw : CallB R s args own idx y bytes maxL none (rv_ws y bytes maxL none) rm K.2.2.2.2.1 K.2.2.2.2.2 n := callB_of n hts (lw_good hY) rfl hrc hrs (hts _ (lw_in hY.1.2)) (hts _ (lw_in hl)) hY.2 hR
  refine lw_run (st0 := (((2, q0) :: as).map (rv_v g)).reverse ++ rest) (va_runI (As := as.map (rv_v g)) (rest := rest) (b := g.2.1 q0) ⟨hx, hbb, hml, hown, hts⟩ hm ⟨cw, hy1, hts _ (lw_in hi)⟩ ⟨rv_blind, hpm⟩ rfl (by rw [List.length_map]; exact hn) hsz ?_ (lv_room hrest) hdg ⟨hce, hsl⟩) hS hA hPw hDw kk
  show (rv_v g (2, q0) :: as.map (rv_v g)).reverse ++ rest = (as.map (rv_v g)).reverse ++ .ref (g.2.1 q0) :: rest
  rw [List.reverse_cons, List.append_assoc]
  rfl
end
/-- a known world's valuation, with arguments behind its ids -/
def lw_g (h : rv_G) (n : Nat) (as : List Int32) : rv_G := (fun j => if j < n then h.1 j else (as.getD (j - n) 0).toInt, h.2.1, h.2.2.1, h.2.2.2)
def lw_ids (n k : Nat) : List rv_V := (List.range k).map (fun i => (0, n + i))
theorem lw_g_ag (h : rv_G) (n N : Nat) (as : List Int32) : rv_ag h (lw_g h n as) n N := ⟨fun i hi => if_pos hi, fun _ _ => rfl, fun _ _ => rfl, rfl⟩
theorem lw_g_arg (h : rv_G) (n : Nat) (as : List Int32) (i : Nat) : (lw_g h n as).1 (n + i) = (as.getD i 0).toInt := by
  show (if n + i < n then _ else (as.getD (n + i - n) 0).toInt) = _
  rw [if_neg (by omega), show n + i - n = i by omega]
theorem lw_ids_v (h : rv_G) (n : Nat) (as : List Int32) : (lw_ids n as.length).map (rv_v (lw_g h n as)) = as.map Value.int := by
  apply List.ext_getElem?
  intro i
  unfold lw_ids
  rw [List.map_map, List.getElem?_map, List.getElem?_map]
  by_cases hi : i < as.length
  · rw [List.getElem?_range hi, List.getElem?_eq_getElem hi]
    show some (Value.int (Int32.ofInt ((lw_g h n as).1 (n + i)))) = some (Value.int as[i])
    rw [lw_g_arg, List.getD_eq_getElem?_getD, List.getElem?_eq_getElem hi]
    show some (Value.int (Int32.ofInt (as[i]).toInt)) = _
    rw [Int32.ofInt_toInt]
  · rw [List.getElem?_eq_none_iff.mpr (by rw [List.length_range]; omega), List.getElem?_eq_none_iff.mpr (by omega)]
    rfl
/-- arguments within their entries -/
def lw_ab (bs : List rv_E) (n : Nat) (as : List Int32) : Prop := ∀ (i : Nat) (b : rv_E), bs[i]? = some b → b.1 ≤ (as.getD i 0).toInt ∧ (as.getD i 0).toInt ≤ b.2.1 ∧ b.2.2.1 = n + i ∧ b.2.2.2.1 = 0 ∧ b.2.2.2.2 = []
/-- entries of the world and of the arguments -/
theorem lw_eA {h : rv_G} {E bs : List rv_E} {as : List Int32} (he : rv_e h E) (hw : rv_wfE E.length E = true) (hb : lw_ab bs E.length as) : rv_e (lw_g h E.length as) (E ++ bs) := by
  intro i b hi
  rw [List.length_append]
  by_cases hl : i < E.length
  · rw [List.getElem?_append_left hl] at hi
    obtain ⟨z1, z2, z3, z4⟩ := he i b hi
    have hag := lw_g_ag h E.length 0 as
    have hbase := (rv_wfE_ok hw (List.mem_of_getElem? hi)).1
    rw [hag.1 i hl, hag.1 _ hbase]
    exact ⟨z1, z2, z3, rv_fs_ag hag (by omega) z4⟩
  · rw [List.getElem?_append_right (by omega)] at hi
    obtain ⟨z1, z2, z3, z4, z5⟩ := hb _ b hi
    have h2 := lw_g_arg h E.length as (i - E.length)
    rw [show E.length + (i - E.length) = i by omega] at h2
    rw [z3, show E.length + (i - E.length) = i by omega, z4, z5, h2]
    exact ⟨z1, z2, by omega, fun q hq => by cases hq⟩
/-- and the new ones, behind a call -/
theorem lw_eB {g h : rv_G} {E : List rv_E} {K : rv_K} {o : rv_O} (he : rv_e g E) (hw : rv_wfE E.length E = true) (hl : K.1.length = E.length) (hp : rv_post g h K o) : rv_e h (E ++ o.2.1) := by
  obtain ⟨p1, p2, p0, pc, p3, p4⟩ := hp
  intro i b hi
  rw [List.length_append]
  rw [hl] at p1 p3
  have hag : rv_ag g h E.length 0 := ⟨fun i hi => congrArg Prod.fst (p1 i hi), fun k hk => absurd hk (Nat.not_lt_zero k), fun i hi => congrArg Prod.snd (p1 i hi), p0⟩
  by_cases hlt : i < E.length
  · rw [List.getElem?_append_left hlt] at hi
    obtain ⟨z1, z2, z3, z4⟩ := he i b hi
    have hbase := (rv_wfE_ok hw (List.mem_of_getElem? hi)).1
    rw [hag.1 i hlt, hag.1 _ hbase]
    exact ⟨z1, z2, z3, rv_fs_ag hag (by omega) z4⟩
  · rw [List.getElem?_append_right (by omega)] at hi
    have z := p3 _ b hi
    rw [show E.length + (i - E.length) = i by omega] at z
    exact z
/-- entries out of entries -/
theorem lw_eC {h : rv_G} {E T : List rv_E} {σ : List Nat} (he : rv_e h E) (hm : rv_mE [] E σ 0 T σ = true) : rv_e (rv_gs h σ) T := by
  obtain ⟨lσ, q⟩ := rv_mE_ok (RL := []) (fun r hr => by cases hr) he (fun k => by rw [Nat.zero_add]) hm
  intro i b hb
  obtain ⟨s1, r1, r2, r3, r4, r5, r6⟩ := q i b hb
  rw [Nat.zero_add] at r3 r4 r5
  rw [lσ] at r6
  exact ⟨r3, r4, r5, r6⟩
/-- the contract's start -/
noncomputable def lw_pk (E bs : List rv_E) (K : rv_K) : Bool := rv_fp (E ++ bs) (fun F => rv_fp (List.range F.length) (fun σ => rv_mEF [] (rv_sfx 24 F) F (rv_fl F) (rv_sfx 24 σ) σ 0 K.1 σ))
theorem lw_pk_ok {h : rv_G} {E bs : List rv_E} {X : List rv_C} {as : List Int32} {K : rv_K} (he : rv_e h E) (hx : rv_x h X) (hw : rv_wfE E.length E = true) (hb : lw_ab bs E.length as) (hKX : K.2.2.1 = X) (hok : X.all (rv_okcb E.length X.length) = true) (hwk : rv_wfK K = true) (hl : K.1.length = E.length + bs.length) (hk : lw_pk E bs K = true) : rv_pre (lw_g h E.length as) K := by
  have hA := lw_eA he hw hb
  unfold lw_pk at hk
  rw [rv_fp_eq, rv_fp_eq, rv_mEF_eq (rv_gt_eq 24 _) (rv_gt_eq 24 _)] at hk
  have hC := lw_eC hA hk
  have hz : ∀ i, i < K.1.length → rv_z (rv_gs (lw_g h E.length as) (List.range (E ++ bs).length)) i = rv_z (lw_g h E.length as) i := fun i hi => rv_gs_z (by rw [List.getElem?_range]; rw [List.length_append]; omega)
  unfold rv_wfK at hwk
  rw [Bool.and_eq_true] at hwk
  constructor
  · intro i b hi
    obtain ⟨z1, z2, z3, z4⟩ := hC i b hi
    have hil : i < K.1.length := (List.getElem?_eq_some_iff.mp hi).1
    obtain ⟨y1, y2⟩ := rv_wfE_ok hwk.1 (List.mem_of_getElem? hi)
    have e1 : (rv_gs (lw_g h E.length as) (List.range (E ++ bs).length)).1 i = (lw_g h E.length as).1 i := congrArg Prod.fst (hz i hil)
    have e2 : (rv_gs (lw_g h E.length as) (List.range (E ++ bs).length)).1 b.2.2.1 = (lw_g h E.length as).1 b.2.2.1 := congrArg Prod.fst (hz _ y1)
    rw [e1] at z1 z2 z3
    rw [e2] at z3
    refine ⟨z1, z2, z3, fun f hf => ⟨(z4 f hf).1, ?_⟩⟩
    have e3 : f.2.map (rv_z (lw_g h E.length as)) = f.2.map (rv_z (rv_gs (lw_g h E.length as) (List.range (E ++ bs).length))) := List.map_congr_left fun j hj => (hz j (y2 f hf j hj)).symm
    rw [e3]
    exact (z4 f hf).2
  · rw [hKX]
    intro k a hk2
    exact rv_a_ag (lw_g_ag h E.length X.length as) (rv_okcb_ok (List.all_eq_true.mp hok _ (List.mem_of_getElem? hk2))) (hx k a hk2)
theorem lw_pre_w {cy : Nat → ClassId} {h : rv_G} {n : Nat} {X : List rv_C} {as : List Int32} (hok : X.all (rv_okcb n X.length) = true) : rv_w cy (lw_g h n as) X = rv_w cy h X := rv_w_ag (lw_g_ag h n X.length as) (fun c hc => rv_okcb_ok (List.all_eq_true.mp hok c hc))
/-! plan and spare plan change places: cells 7 to 16 with 40 to 49 -/
def lw_sw (k : Nat) : Nat := bif Nat.ble 7 k && Nat.ble k 16 then k + 33 else bif Nat.ble 40 k && Nat.ble k 49 then k - 33 else k
theorem lw_sw_def (k : Nat) : (7 ≤ k ∧ k ≤ 16 → lw_sw k = k + 33) ∧ (40 ≤ k ∧ k ≤ 49 → lw_sw k = k - 33) ∧ (¬ (7 ≤ k ∧ k ≤ 16) → ¬ (40 ≤ k ∧ k ≤ 49) → lw_sw k = k) := by
  have hb : ∀ a b c : Nat, (Nat.ble a b && Nat.ble b c) = true ↔ a ≤ b ∧ b ≤ c := fun a b c => by rw [Bool.and_eq_true, Nat.ble_eq, Nat.ble_eq]
  unfold lw_sw
  refine ⟨fun h => ?_, fun h => ?_, fun h1 h2 => ?_⟩
  · rw [(hb 7 k 16).mpr h]; rfl
  · have h1 : (Nat.ble 7 k && Nat.ble k 16) = false := by
      cases hz : (Nat.ble 7 k && Nat.ble k 16) with
      | false => rfl
      | true => have := (hb 7 k 16).mp hz; omega
    rw [h1, (hb 40 k 49).mpr h]; rfl
  · have z1 : (Nat.ble 7 k && Nat.ble k 16) = false := by
      cases hz : (Nat.ble 7 k && Nat.ble k 16) with
      | false => rfl
      | true => exact absurd ((hb 7 k 16).mp hz) h1
    have z2 : (Nat.ble 40 k && Nat.ble k 49) = false := by
      cases hz : (Nat.ble 40 k && Nat.ble k 49) with
      | false => rfl
      | true => exact absurd ((hb 40 k 49).mp hz) h2
    rw [z1, z2]; rfl
theorem lw_sw_sw (k : Nat) : lw_sw (lw_sw k) = k := by
  obtain ⟨a1, a2, a3⟩ := lw_sw_def k
  by_cases h1 : 7 ≤ k ∧ k ≤ 16
  · rw [a1 h1]
    have := (lw_sw_def (k + 33)).2.1 (by omega)
    omega
  · by_cases h2 : 40 ≤ k ∧ k ≤ 49
    · rw [a2 h2]
      have := (lw_sw_def (k - 33)).1 (by omega)
      omega
    · rw [a3 h1 h2, a3 h1 h2]
theorem lw_sw_lt {k : Nat} (h : k < 50) : lw_sw k < 50 := by
  obtain ⟨a1, a2, a3⟩ := lw_sw_def k
  by_cases h1 : 7 ≤ k ∧ k ≤ 16
  · rw [a1 h1]; omega
  · by_cases h2 : 40 ≤ k ∧ k ≤ 49
    · rw [a2 h2]; omega
    · rw [a3 h1 h2]; exact h
theorem lw_sw_ge {k : Nat} (h : 50 ≤ k) : lw_sw k = k := (lw_sw_def k).2.2 (by omega) (by omega)
def lw_swV (a : rv_V) : rv_V := bif Nat.beq a.1 2 then (2, lw_sw a.2) else a
def lw_swC (c : rv_C) : rv_C := match c with
  | .inl o => .inl (o.1, o.2.map lw_swV)
  | .inr a => .inr a
def lw_swX (X : List rv_C) : List rv_C := (List.range 50).map (fun k => match X[lw_sw k]? with
  | some c => lw_swC c
  | none => .inl (0, []))
def lw_swG (h : rv_G) : rv_G := (h.1, fun k => h.2.1 (lw_sw k), h.2.2.1, h.2.2.2)
theorem lw_swV_ok (h : rv_G) (a : rv_V) : rv_v (lw_swG h) (lw_swV a) = rv_v h a := by
  obtain ⟨k, i⟩ := a
  match k with
  | 0 => rfl
  | 1 => rfl
  | 2 =>
    show Value.ref (h.2.1 (lw_sw (lw_sw i))) = Value.ref (h.2.1 i)
    rw [lw_sw_sw]
  | 3 => rfl
  | k + 4 => rfl
theorem lw_swC_ok (cy : Nat → ClassId) (h : rv_G) (c : rv_C) : rv_d cy (lw_swG h) (lw_swC c) = rv_d cy h c := by
  cases c with
  | inr a => rfl
  | inl o =>
    show Sum.inr (o.1, (o.2.map lw_swV).map (rv_v (lw_swG h))) = Sum.inr (o.1, o.2.map (rv_v h))
    rw [List.map_map, List.map_congr_left (f := rv_v (lw_swG h) ∘ lw_swV) (g := rv_v h) (fun a _ => lw_swV_ok h a)]
theorem lw_swX_at {X : List rv_C} (hl : X.length = 50) (k : Nat) : (lw_swX X)[k]? = (X[lw_sw k]?).map lw_swC := by
  unfold lw_swX
  rw [List.getElem?_map]
  by_cases hk : k < 50
  · rw [List.getElem?_range hk, List.getElem?_eq_getElem (by rw [hl]; exact lw_sw_lt hk)]
    show some (match X[lw_sw k]? with
      | some c => lw_swC c
      | none => .inl (0, [])) = _
    rw [List.getElem?_eq_getElem (by rw [hl]; exact lw_sw_lt hk)]
    rfl
  · rw [List.getElem?_eq_none_iff.mpr (by rw [List.length_range]; omega), List.getElem?_eq_none_iff.mpr (by rw [hl, lw_sw_ge (by omega)]; omega)]
    rfl
theorem lw_swX_x {h : rv_G} {X : List rv_C} (hl : X.length = 50) (hx : rv_x h X) : rv_x (lw_swG h) (lw_swX X) := by
  intro k a hk
  rw [lw_swX_at hl] at hk
  cases hc : X[lw_sw k]? with
  | none => rw [hc] at hk; cases hk
  | some cd =>
    rw [hc] at hk
    cases cd with
    | inl o => cases hk
    | inr b =>
      have hk := Sum.inr.inj (Option.some.inj hk)
      subst hk
      exact hx _ b hc
theorem lw_swX_w {h : rv_G} {X : List rv_C} (hl : X.length = 50) : lw_Mv h (lw_swG h) X (lw_swX X) := by
  intro cy
  refine ⟨lw_sw, fun i j e => by rw [← lw_sw_sw i, e, lw_sw_sw], fun k => ?_⟩
  unfold rv_w
  rw [List.getElem?_mapIdx, List.getElem?_mapIdx, lw_swX_at hl]
  cases X[lw_sw k]? with
  | none => rfl
  | some cd =>
    show some (h.2.1 (lw_sw k), rv_d cy (lw_swG h) (lw_swC cd)) = some (h.2.1 (lw_sw k), rv_d cy h cd)
    rw [lw_swC_ok]
/-- behind a call the world is the pattern's again -/
noncomputable def lw_tk (E : List rv_E) (X : List rv_C) (ck s0 : Nat) (T : List rv_E × List rv_C) : Bool := match rv_mXF (rv_sfx 24 E) E 0 (0, []) T.2 X with
  | some q => rv_fp q.2.reverse (fun σ => rv_mEF [] (rv_sfx 24 E) E (rv_fl E) (rv_sfx 24 σ) σ 0 T.1 σ && (match rv_gt (rv_sfx 24 σ) σ ck with
    | some s => Nat.beq s s0
    | none => false))
  | none => false
theorem lw_tk_ok {h : rv_G} {E : List rv_E} {X : List rv_C} {ck s0 : Nat} {T : List rv_E × List rv_C} (he : rv_e h E) (hx : rv_x h X) (hk : lw_tk E X ck s0 T = true) : ∃ σ, rv_e (rv_gs h σ) T.1 ∧ rv_x (rv_gs h σ) T.2 ∧ (∀ cy, rv_w cy (rv_gs h σ) T.2 = rv_w cy h X) ∧ (rv_gs h σ).1 ck = h.1 s0 := by
  unfold lw_tk at hk
  cases h1 : rv_mXF (rv_sfx 24 E) E 0 (0, []) T.2 X with
  | none => rw [h1] at hk; cases hk
  | some q =>
    rw [h1] at hk
    dsimp only at hk
    obtain ⟨a1, a2⟩ := rv_mXF_ok (rv_gt_eq 24 E) (rv_q0 0).1 h1
    have a1 : rv_mX E [] T.2 X = some q.2.reverse := a1
    rw [rv_fp_eq, Bool.and_eq_true, rv_mEF_eq (rv_gt_eq 24 E) (rv_gt_eq 24 _), rv_gt_eq] at hk
    refine ⟨q.2.reverse, lw_eC he hk.1, (rv_mX_w0 (cy := fun _ => 0) he a1 hx).2.2.2, fun cy => (rv_mX_w0 (cy := cy) he a1 hx).2.2.1, ?_⟩
    have h3 := hk.2
    cases h4 : q.2.reverse[ck]? with
    | none => rw [h4] at h3; cases h3
    | some s =>
      rw [h4] at h3
      have h3 : s = s0 := Nat.eq_of_beq_eq_true h3
      rw [rv_gs_at h4, h3]
/-- the same, plans changed if they must be -/
noncomputable def lw_tk2 (E : List rv_E) (X : List rv_C) (ck s0 : Nat) (T : List rv_E × List rv_C) : Bool := lw_tk E X ck s0 T || (Nat.beq X.length 50 && rv_fp (lw_swX X) (fun X' => lw_tk E X' ck s0 T))
theorem lw_tk2_ok {h : rv_G} {E : List rv_E} {X : List rv_C} {ck s0 : Nat} {T : List rv_E × List rv_C} (he : rv_e h E) (hx : rv_x h X) (hk : lw_tk2 E X ck s0 T = true) : ∃ h', rv_e h' T.1 ∧ rv_x h' T.2 ∧ h'.2.1 0 = h.2.1 0 ∧ h'.2.2.2 = h.2.2.2 ∧ h'.1 ck = h.1 s0 ∧ lw_Mv h h' X T.2 := by
  unfold lw_tk2 at hk
  rw [Bool.or_eq_true] at hk
  rcases hk with hk | hk
  · obtain ⟨σ, z1, z2, z3, z4⟩ := lw_tk_ok he hx hk
    exact ⟨rv_gs h σ, z1, z2, rfl, rfl, z4, lw_Mv.same z3⟩
  · rw [Bool.and_eq_true, rv_fp_eq] at hk
    have hl : X.length = 50 := Nat.eq_of_beq_eq_true hk.1
    obtain ⟨σ, z1, z2, z3, z4⟩ := lw_tk_ok (h := lw_swG h) he (lw_swX_x hl hx) hk.2
    refine ⟨rv_gs (lw_swG h) σ, z1, z2, ?_, rfl, z4, fun cy => ?_⟩
    · show h.2.1 (lw_sw 0) = h.2.1 0
      rfl
    · obtain ⟨π, p1, p2⟩ := lw_swX_w hl (h := h) cy
      exact ⟨π, p1, fun k => by rw [z3]; exact p2 k⟩
/-- a call's transition between worlds -/
def lw_Tr (K : rv_K) (E : List rv_E) (X : List rv_C) (bs : List rv_E) (ck s0 : Nat) (Ts : List (List rv_E × List rv_C)) : Prop := ∀ (h : rv_G) (as : List Int32), rv_e h E → rv_x h X → lw_ab bs E.length as → rv_pre (lw_g h E.length as) K ∧ ∀ o ∈ K.2.2.2.1, (∃ r, o.2.2.1 = some (0, r)) ∧ ∀ u, rv_post (lw_g h E.length as) u K o → ∃ T ∈ Ts, ∃ h', rv_e h' T.1 ∧ rv_x h' T.2 ∧ h'.2.1 0 = h.2.1 0 ∧ h'.2.2.2 = h.2.2.2 ∧ h'.1 ck = u.1 s0 ∧ lw_Mv u h' o.2.2.2 T.2
def lw_rk (o : rv_O) : Bool := match o.2.2.1 with
  | some (0, _) => true
  | _ => false
noncomputable def lw_ok (E bs : List rv_E) (K : rv_K) (ck s0 : Nat) (Ts : List (List rv_E × List rv_C)) : Bool := lw_pk E bs K && K.2.2.2.1.all (fun o => lw_rk o && rv_fp (E ++ bs ++ o.2.1) (fun F => Ts.any (lw_tk2 F o.2.2.2 ck s0)))
theorem lw_tr {K : rv_K} {E bs : List rv_E} {X : List rv_C} {ck s0 : Nat} {Ts : List (List rv_E × List rv_C)} (hw : rv_wfE E.length E = true) (hwb : rv_wfE (E ++ bs).length (E ++ bs) = true) (hKX : K.2.2.1 = X) (hok : X.all (rv_okcb E.length X.length) = true) (hX0 : 1 ≤ X.length) (hwk : rv_wfK K = true) (hl : K.1.length = E.length + bs.length) (hk : lw_ok E bs K ck s0 Ts = true) : lw_Tr K E X bs ck s0 Ts := by
  intro h as he hx hb
  unfold lw_ok at hk
  rw [Bool.and_eq_true] at hk
  have hpre := lw_pk_ok he hx hw hb hKX hok hwk hl hk.1
  refine ⟨hpre, fun o ho => ?_⟩
  have h2 := List.all_eq_true.mp hk.2 o ho
  rw [Bool.and_eq_true, rv_fp_eq] at h2
  refine ⟨?_, fun u hu => ?_⟩
  · have h3 := h2.1
    unfold lw_rk at h3
    split at h3
    · rename_i r hr
      exact ⟨r, hr⟩
    · cases h3
  · obtain ⟨T, hT, h4⟩ := List.any_eq_true.mp h2.2
    have hA := lw_eA he hw hb
    have hB := lw_eB hA hwb (by rw [List.length_append]; exact hl) hu
    obtain ⟨h', z1, z2, z3, z4, z5, z6⟩ := lw_tk2_ok hB hu.2.2.2.2.2 h4
    exact ⟨T, hT, h', z1, z2, by rw [z3, hu.2.1 0 (by rw [hKX]; exact hX0)]; rfl, by rw [z4, hu.2.2.1]; rfl, z5, z6⟩
