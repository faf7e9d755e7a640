/-! the law's own rows -/
def lw_sa (pc : Nat) (ks : List Nat) : List (Nat × Instr × Nat) := match ks with
  | [] => []
  | k :: ks => (pc, .aload_n 0, 1) :: (pc + 1, .iload_n 3, 1) :: (pc + 2, .iconst k, 1) :: (pc + 3, .iadd, 1) :: (pc + 4, .iaload, 1) :: lw_sa (pc + 5) ks
def lw_Dec (ds : List (Nat × Instr × Nat)) : Prop := ∀ q ∈ ds, decode code q.1 = .ok (q.2.1, q.2.2)
section
variable {p : Program} {l : Launch} {e : Env} {s : State} {m : MethodId} {below : List Frame} {meth : Method} {c : Code} {Q : State → Prop} {b L : Nat} {xs : Nat → Int32}
variable {cn sn : Nat} {ls : Array Slot} {H : Heap} {locs : List Loc}
theorem lw_args (C0 : lw_At p s m meth c b L xs) {i : Nat} (hLs : L < 100000) (h0 : ls[0]? = some (.val (.ref b))) (h3 : ls[3]? = some (.val (.int (nI i)))) (hS : va_S (fun q : Nat => s.heap.size ≤ q) s.heap H locs) : ∀ (ks : List Nat) (pc : Nat) (rest : List Value), (∀ k ∈ ks, i + k < L) → lw_Dec (lw_sa pc ks) → W p l e room_1 s m #[Value.ref b] below meth c H locs cn sn Q (F0 m (pc + 5 * ks.length) ls ((ks.map (fun k => Value.int (xs (i + k)))).reverse ++ rest)) → W p l e room_1 s m #[Value.ref b] below meth c H locs cn sn Q (F0 m pc ls rest)
  | [], pc, rest, _, _, k => k
  | z :: ks, pc, rest, hk, hd, k => by
    obtain ⟨hx, hb, hr, hml, hown, hts, hX, hbl, hlocks, hgv⟩ := id C0
    have hbA : ¬ (fun q : Nat => s.heap.size ≤ q) b := Nat.not_le.mpr hbl
    have hz := hk z List.mem_cons_self
    have m0 : ∀ {n : Nat} {q : Nat × Instr × Nat}, (lw_sa pc (z :: ks))[n]? = some q → decode code q.1 = .ok (q.2.1, q.2.2) := fun h => hd _ (List.mem_of_getElem? h)
    have d0 : decode code pc = .ok (.aload_n 0, 1) := m0 (n := 0) (q := (pc, .aload_n 0, 1)) rfl
    have d1 : decode code (pc + 1) = .ok (.iload_n 3, 1) := m0 (n := 1) (q := (pc + 1, .iload_n 3, 1)) rfl
    have d2 : decode code (pc + 2) = .ok (.iconst z, 1) := m0 (n := 2) (q := (pc + 2, .iconst z, 1)) rfl
    have d3 : decode code (pc + 3) = .ok (.iadd, 1) := m0 (n := 3) (q := (pc + 3, .iadd, 1)) rfl
    have d4 : decode code (pc + 4) = .ok (.iaload, 1) := m0 (n := 4) (q := (pc + 4, .iaload, 1)) rfl
    refine lv_aload_n hx hb d0 rfl h0 ?_
    refine lv_iload_n hx hb d1 rfl h3 ?_
    refine lv_iconst (v := nI z) hx hb d2 rfl ?_
    refine lv_iadd hx hb d3 ?_
    rw [nI_add]
    refine va_sld hx hb hX hbl hbA hS (vp_in_nI hz (by omega)) d4 ?_
    rw [nI_clamp (by omega)]
    refine lw_args C0 hLs h0 h3 hS ks (pc + 5) (.int (xs (i + z)) :: rest) (fun q hq => hk q (List.mem_cons_of_mem _ hq)) (fun q hq => hd q (by
      show q ∈ _ :: _ :: _ :: _ :: _ :: lw_sa (pc + 5) ks
      exact List.mem_cons_of_mem _ (List.mem_cons_of_mem _ (List.mem_cons_of_mem _ (List.mem_cons_of_mem _ (List.mem_cons_of_mem _ hq))))) ) ?_
    have e1 : pc + 5 * (z :: ks).length = pc + 5 + 5 * ks.length := by rw [List.length_cons]; omega
    have e2 : ((z :: ks).map (fun k => Value.int (xs (i + k)))).reverse ++ rest = (ks.map (fun k => Value.int (xs (i + k)))).reverse ++ (.int (xs (i + z)) :: rest) := by
      rw [List.map_cons, List.reverse_cons, List.append_assoc]
      rfl
    rw [e1, e2] at k
    exact k
/-- x != 0 -/
theorem lw_bool (C0 : lw_At p s m meth c b L xs) {pc : Nat} {x : Int32} {rest : List Value} (hd : lw_Dec [(pc, .ifCond .eq 7, 3), (pc + 3, .iconst 1, 1), (pc + 4, .goto 4, 3), (pc + 7, .iconst 0, 1)]) (k : W p l e room_1 s m #[Value.ref b] below meth c H locs cn sn Q (F0 m (pc + 8) ls (.int (if x = 0 then 0 else 1) :: rest))) : W p l e room_1 s m #[Value.ref b] below meth c H locs cn sn Q (F0 m pc ls (.int x :: rest)) := by
  obtain ⟨hx, hb, -⟩ := id C0
  have d0 : decode code pc = .ok (.ifCond .eq 7, 3) := hd (pc, .ifCond .eq 7, 3) (by simp)
  have d1 : decode code (pc + 3) = .ok (.iconst 1, 1) := hd (pc + 3, .iconst 1, 1) (by simp)
  have d2 : decode code (pc + 4) = .ok (.goto 4, 3) := hd (pc + 4, .goto 4, 3) (by simp)
  have d3 : decode code (pc + 7) = .ok (.iconst 0, 1) := hd (pc + 7, .iconst 0, 1) (by simp)
  refine lv_if_eq (tgt := pc + 7) hx hb d0 (by omega) (fun h => ?_) (fun h => ?_)
  · rw [if_pos h] at k
    exact lv_iconst (v := 0) hx hb d3 (by decide) k
  · rw [if_neg h] at k
    refine lv_iconst (v := 1) hx hb d1 (by decide) ?_
    exact lv_goto (tgt := pc + 8) hx hb d2 (by omega) k
end
abbrev lw_A (s : State) : Nat → Prop := fun q : Nat => s.heap.size ≤ q
def lw_Push (p : Program) (l : Launch) (e : Env) (s : State) (m : MethodId) (below : List Frame) (meth : Method) (c : Code) (b : Nat) (Q : State → Prop) (ls : Array Slot) (pc pc' : Nat) (as : List Int32) : Prop := ∀ (H : Heap) (locs : List Loc) (cn sn : Nat) (rest : List Value), va_S (lw_A s) s.heap H locs → W p l e room_1 s m #[Value.ref b] below meth c H locs cn sn Q (F0 m pc' ls ((as.map Value.int).reverse ++ rest)) → W p l e room_1 s m #[Value.ref b] below meth c H locs cn sn Q (F0 m pc ls rest)
section
variable {p : Program} {l : Launch} {e : Env} {s : State} {m : MethodId} {below : List Frame} {meth : Method} {c : Code} {Q : State → Prop} {b L : Nat} {xs : Nat → Int32} {ls : Array Slot} {D : va_G} {cy : Nat → ClassId} {st : Nat → Nat}
theorem lw_push (C0 : lw_At p s m meth c b L xs) {i : Nat} (hLs : L < 100000) (h0 : ls[0]? = some (.val (.ref b))) (h3 : ls[3]? = some (.val (.int (nI i)))) {ks : List Nat} {pc : Nat} (hk : ∀ k ∈ ks, i + k < L) (hd : lw_Dec (lw_sa pc ks)) : lw_Push p l e s m below meth c b Q ls pc (pc + 5 * ks.length) (ks.map (fun k => xs (i + k))) := by
  intro H locs cn sn rest hS k
  refine lw_args C0 hLs h0 h3 hS ks pc rest hk hd ?_
  rw [List.map_map] at k
  exact k
theorem lw_pushB (C0 : lw_At p s m meth c b L xs) {i : Nat} (hLs : L < 100000) (h0 : ls[0]? = some (.val (.ref b))) (h3 : ls[3]? = some (.val (.int (nI i)))) {pc : Nat} (hk : ∀ k ∈ [1, 2], i + k < L) (hd : lw_Dec (lw_sa pc [1, 2])) (hd2 : lw_Dec [(pc + 10, .ifCond .eq 7, 3), (pc + 13, .iconst 1, 1), (pc + 14, .goto 4, 3), (pc + 17, .iconst 0, 1)]) : lw_Push p l e s m below meth c b Q ls pc (pc + 18) [xs (i + 1), if xs (i + 2) = 0 then 0 else 1] := by
  intro H locs cn sn rest hS k
  exact lw_args C0 hLs h0 h3 hS [1, 2] pc rest hk hd (lw_bool C0 hd2 k)
/-- one call, between worlds -/
theorem lw_call1 (Cx : rv_Cx p s m #[Value.ref b] c code R_law 4 lw_tbl D vwCl cy (lw_A s) st) (hN : rv_NWs rv_NW s) {E bs : List rv_E} {X : List rv_C} {h : rv_G} (he : rv_e h E) (hx : rv_x h X) (hgs : h.2.2.2 = st) (hok : X.all (rv_okcb E.length X.length) = true) {wr : va_W} {H : Heap} {locs : List Loc} {cn sn : Nat} (hP : va_P D vwCl (rv_w cy h X ++ wr) H) (hD : va_D (lw_A s) (rv_w cy h X ++ wr)) (hS : va_S (lw_A s) s.heap H locs) (hsz : ls.size = 4)
    {as : List Int32} {n : Nat} (has : as.length = n) (hb : lw_ab bs E.length as) {y : MethodName} {by1 : ByteArray} {nl idx ci NN : Nat} {rt : Option FieldType} {rm : Room} {K : rv_K} {fs : List rv_V} {T0 : u_T} {ck s0 : Nat} {Ts : List (List rv_E × List rv_C)}
    (M : rv_Met rv_NW l D vwCl cy y (rv_ws y by1 nl rt) rm K) (Y : rv_Yi y by1 nl rt n) (I : Jvm.Cond.instanceMethod y ∈ rv_tbl) (S : Jvm.Cond.selects y.cls y y ∈ rv_tbl) (Lk : Jvm.Cond.methodLink R_law idx y ∈ rv_tbl) (R1 : rm.frames + 1 ≤ room_1.frames ∧ 8 + (nl + 11) + rm.locals ≤ room_1.locals) (c1 : rm.cells = K.2.2.2.2.1) (s1 : rm.slots = K.2.2.2.2.2) (z1 : K.2.2.2.2.1 = 0 ∧ K.2.2.2.2.2 = 0) (b1 : K.2.1 = (2, 0) :: lw_ids E.length n) (d1 : K.2.2.1 = X) (f1 : X[0]? = some (.inl (ci, fs))) (g1 : vwCl[ci]? = some (y.cls, T0, NN)) (TR : lw_Tr K E X bs ck s0 Ts)
    {pc : Nat} {rest : List Value} (hd : decode code pc = .ok (.invokevirtual idx, 3)) (hcn : cn ≤ 600000) (hsn : sn ≤ 7302250) (hrest : (rest.map fun v => v.category).sum ≤ 8)
    (kk : ∀ o ∈ K.2.2.2.1, ∀ (u h' : rv_G) (T : List rv_E × List rv_C) (r : Nat) (H1 : Heap) (locs1 : List Loc), T ∈ Ts → o.2.2.1 = some (0, r) → rv_post (lw_g h E.length as) u K o → rv_e h' T.1 → rv_x h' T.2 → h'.2.1 0 = h.2.1 0 → h'.2.2.2 = st → h'.1 ck = u.1 s0 → va_P D vwCl (wr ++ rv_w cy h' T.2) H1 → va_D (lw_A s) (wr ++ rv_w cy h' T.2) → va_S (lw_A s) s.heap H1 locs1 → W p l e room_1 s m #[Value.ref b] below meth c H1 locs1 cn sn Q (F0 m (pc + 3) ls (.int (Int32.ofInt (u.1 r)) :: rest))) :
    W p l e room_1 s m #[Value.ref b] below meth c H locs cn sn Q (F0 m pc ls ((as.map Value.int).reverse ++ .ref (h.2.1 0) :: rest)) := by
  obtain ⟨pre, tr⟩ := TR h as he hx hb
  have w1 : rv_w cy (lw_g h E.length as) K.2.2.1 = rv_w cy h X := by rw [d1]; exact lw_pre_w hok
  have lid : (lw_ids E.length n).length = n := by unfold lw_ids; rw [List.length_map, List.length_range]
  have hst : (K.2.1.map (rv_v (lw_g h E.length as))).reverse ++ rest = (as.map Value.int).reverse ++ (.ref (h.2.1 0) :: rest) := by
    rw [b1, List.map_cons, ← has, lw_ids_v, List.reverse_cons, List.append_assoc]
    rfl
  rw [← hst]
  refine lw_cV (g := lw_g h E.length as) (wr := wr) Cx hN M Y I S Lk hd R1 c1 s1 b1 lid (by rw [d1]; exact f1) g1 hsz hgs pre (by rw [w1]; exact hP) (by rw [w1]; exact hD) hS hrest (by rw [z1.1]; exact hcn) (by rw [z1.2]; exact hsn) (fun o ho u H1 locs1 hpo hP1 hD1 hS1 => ?_)
  obtain ⟨⟨r, hr⟩, tr2⟩ := tr o ho
  obtain ⟨T, hT, h', t1, t2, t3, t4, t5, t6⟩ := tr2 u hpo
  have h9 := kk o ho u h' T r H1 locs1 hT hr hpo t1 t2 t3 (t4.trans hgs) t5 (t6.P hP1) (t6.D hD1) hS1
  rw [z1.1, z1.2, hr]
  exact h9
end
theorem lw_ab0 (n : Nat) : lw_ab [] n [] := fun i b h => by cases h
theorem lw_abC {a : Int32} {b0 : rv_E} {as : List Int32} {bs : List rv_E} {n : Nat} (h : b0.1 ≤ a.toInt ∧ a.toInt ≤ b0.2.1) (hn : b0.2.2 = (n, 0, [])) (t : lw_ab bs (n + 1) as) : lw_ab (b0 :: bs) n (a :: as)
  | 0, b, hb => by
    have hb : b0 = b := Option.some.inj hb
    subst hb
    exact ⟨h.1, h.2, by rw [hn]; rfl, by rw [hn], by rw [hn]⟩
  | i + 1, b, hb => by
    obtain ⟨z1, z2, z3, z4, z5⟩ := t i b hb
    exact ⟨z1, z2, by rw [z3]; omega, z4, z5⟩
theorem lw_boolI (x : Int32) : Int.ofNat 0 ≤ (if x = 0 then (0 : Int32) else 1).toInt ∧ (if x = 0 then (0 : Int32) else 1).toInt ≤ Int.ofNat 1 := by
  by_cases h : x = 0
  · rw [if_pos h]; decide
  · rw [if_neg h]; decide
def lw_g0 (q : Nat) (st : Nat → Nat) : rv_G := (fun _ => 0, fun _ => q, fun _ _ => 0, st)
/-! the tables at the law's entry -/
theorem lw_arr {s : State} {args : Array Value} {t : FieldType} (h : (Jvm.Cond.arrayClass t).before args s = true) : ∃ cA : ClassId, ArrOfT s cA t ∧ s.vm.findClass ("[" ++ t.toString) = some cA := by
  obtain ⟨cA, kA, comp, h1, h2, h3⟩ := Cond.arrayClass_spec h
  exact ⟨cA, fun n z => ⟨fun k h => (by cases h), kA, h2, comp, h3⟩, h1⟩
