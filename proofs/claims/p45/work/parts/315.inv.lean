def lw_Inv (D : va_G) (cy : Nat → ClassId) (st : Nat → Nat) (s : State) (h1 h2 : rv_G) (T2 : List rv_E × List rv_C) (H : Heap) (locs : List Loc) : Prop := (rv_e h1 lw_Ec ∧ rv_x h1 lw_Xc ∧ h1.2.2.2 = st) ∧ (rv_e h2 T2.1 ∧ rv_x h2 T2.2 ∧ h2.2.2.2 = st) ∧ h1.1 61 = h2.1 25 ∧ va_P D vwCl (rv_w cy h1 lw_Xc ++ rv_w cy h2 T2.2) H ∧ va_D (lw_A s) (rv_w cy h1 lw_Xc ++ rv_w cy h2 T2.2) ∧ va_S (lw_A s) s.heap H locs
def lw_T2 (T2 : List rv_E × List rv_C) : Prop := T2 = lw_M0 ∨ T2 = lw_M1
def lw_Tail (p : Program) (l : Launch) (e : Env) (s : State) (m : MethodId) (below : List Frame) (meth : Method) (c : Code) (b : Nat) (D : va_G) (cy : Nat → ClassId) (st : Nat → Nat) (h1 h2 : rv_G) (ls : Array Slot) (cn sn : Nat) : Prop := ∀ (h1' h2' : rv_G) (T2 : List rv_E × List rv_C) (H : Heap) (locs : List Loc), lw_T2 T2 → h1'.2.1 0 = h1.2.1 0 → h2'.2.1 0 = h2.2.1 0 → lw_Inv D cy st s h1' h2' T2 H locs → W p l e room_1 s m #[Value.ref b] below meth c H locs cn sn (lw_Z below #[Value.ref b] s) (F0 m 1566 ls [])
section
variable {p : Program} {l : Launch} {e : Env} {s : State} {m : MethodId} {below : List Frame} {meth : Method} {c : Code} {b L : Nat} {xs : Nat → Int32} {ls : Array Slot} {D : va_G} {cy : Nat → ClassId} {st : Nat → Nat}
/-- both calls of a case, whose answers nobody asks for -/
theorem lw_case (Cx : rv_Cx p s m #[Value.ref b] c code R_law 4 lw_tbl D vwCl cy (lw_A s) st) (hN : rv_NWs rv_NW s) {h1 h2 : rv_G} {E2 : List rv_E} {X2 : List rv_C} {H : Heap} {locs : List Loc} {cn sn : Nat} (IV : lw_Inv D cy st s h1 h2 (E2, X2) H locs) (ok2 : X2.all (rv_okcb E2.length X2.length) = true) (hl1 : ls[1]? = some (.val (.ref (h1.2.1 0)))) (hl2 : ls[2]? = some (.val (.ref (h2.2.1 0)))) (hsz : ls.size = 4)
    {as : List Int32} {n : Nat} (has : as.length = n) {bs1 bs2 : List rv_E} (hb1 : lw_ab bs1 lw_Ec.length as) (hb2 : lw_ab bs2 E2.length as)
    {y1 y2 : MethodName} {by1 by2 : ByteArray} {nl1 nl2 i1 i2 ci1 ci2 N1 N2 : Nat} {r1 r2 : Option FieldType} {rm1 rm2 : Room} {K1 K2 : rv_K} {fs1 fs2 : List rv_V} {T1 T2 : u_T} {Ts2 : List (List rv_E × List rv_C)}
    (M1 : rv_Met rv_NW l D vwCl cy y1 (rv_ws y1 by1 nl1 r1) rm1 K1) (Y1 : rv_Yi y1 by1 nl1 r1 n) (I1 : Jvm.Cond.instanceMethod y1 ∈ rv_tbl) (S1 : Jvm.Cond.selects y1.cls y1 y1 ∈ rv_tbl) (L1 : Jvm.Cond.methodLink R_law i1 y1 ∈ rv_tbl) (R1 : rm1.frames + 1 ≤ room_1.frames ∧ 8 + (nl1 + 11) + rm1.locals ≤ room_1.locals) (c1 : rm1.cells = K1.2.2.2.2.1) (s1 : rm1.slots = K1.2.2.2.2.2) (z1 : K1.2.2.2.2.1 = 0 ∧ K1.2.2.2.2.2 = 0) (b1 : K1.2.1 = (2, 0) :: lw_ids lw_Ec.length n) (d1 : K1.2.2.1 = lw_Xc) (f1 : lw_Xc[0]? = some (.inl (ci1, fs1))) (g1 : vwCl[ci1]? = some (y1.cls, T1, N1)) (TR1 : lw_Tr K1 lw_Ec lw_Xc bs1 61 61 [lw_Mc])
    (M2 : rv_Met rv_NW l D vwCl cy y2 (rv_ws y2 by2 nl2 r2) rm2 K2) (Y2 : rv_Yi y2 by2 nl2 r2 n) (I2 : Jvm.Cond.instanceMethod y2 ∈ rv_tbl) (S2 : Jvm.Cond.selects y2.cls y2 y2 ∈ rv_tbl) (L2 : Jvm.Cond.methodLink R_law i2 y2 ∈ rv_tbl) (R2 : rm2.frames + 1 ≤ room_1.frames ∧ 8 + (nl2 + 11) + rm2.locals ≤ room_1.locals) (c2 : rm2.cells = K2.2.2.2.2.1) (s2 : rm2.slots = K2.2.2.2.2.2) (z2 : K2.2.2.2.2.1 = 0 ∧ K2.2.2.2.2.2 = 0) (b2 : K2.2.1 = (2, 0) :: lw_ids E2.length n) (d2 : K2.2.2.1 = X2) (f2 : X2[0]? = some (.inl (ci2, fs2))) (g2 : vwCl[ci2]? = some (y2.cls, T2, N2)) (TR2 : lw_Tr K2 E2 X2 bs2 25 25 Ts2) (hTs : ∀ T ∈ Ts2, lw_T2 T) (ck1 : 61 < lw_Ec.length ∧ lw_Ec.length ≤ K1.1.length) (ck2 : 25 < E2.length ∧ E2.length ≤ K2.1.length)
    {pc pc1 pc2 : Nat} {off : Int} (P1 : lw_Push p l e s m below meth c b (lw_Z below #[Value.ref b] s) ls (pc + 1) pc1 as) (P2 : lw_Push p l e s m below meth c b (lw_Z below #[Value.ref b] s) ls (pc1 + 5) pc2 as) (hd : lw_Dec [(pc, .aload_n 1, 1), (pc1, .invokevirtual i1, 3), (pc1 + 3, .pop, 1), (pc1 + 4, .aload_n 2, 1), (pc2, .invokevirtual i2, 3), (pc2 + 3, .pop, 1), (pc2 + 4, .goto off, 3)]) (htgt : ((pc2 + 4 : Nat) : Int) + off = ((1566 : Nat) : Int)) (hcn : cn ≤ 600000) (hsn : sn ≤ 7302250)
    (tail : lw_Tail p l e s m below meth c b D cy st h1 h2 ls cn sn) : W p l e room_1 s m #[Value.ref b] below meth c H locs cn sn (lw_Z below #[Value.ref b] s) (F0 m pc ls []) := by
  obtain ⟨hx, hb, -⟩ := id Cx
  obtain ⟨⟨e1, x1, t1⟩, ⟨e2, x2, t2⟩, hck, hP, hD, hS⟩ := IV
  have q0 : decode code pc = .ok (.aload_n 1, 1) := hd (pc, .aload_n 1, 1) (by simp)
  have q1 : decode code pc1 = .ok (.invokevirtual i1, 3) := hd (pc1, .invokevirtual i1, 3) (by simp)
  have q2 : decode code (pc1 + 3) = .ok (.pop, 1) := hd (pc1 + 3, .pop, 1) (by simp)
  have q3 : decode code (pc1 + 4) = .ok (.aload_n 2, 1) := hd (pc1 + 4, .aload_n 2, 1) (by simp)
  have q4 : decode code pc2 = .ok (.invokevirtual i2, 3) := hd (pc2, .invokevirtual i2, 3) (by simp)
  have q5 : decode code (pc2 + 3) = .ok (.pop, 1) := hd (pc2 + 3, .pop, 1) (by simp)
  have q6 : decode code (pc2 + 4) = .ok (.goto off, 3) := hd (pc2 + 4, .goto off, 3) (by simp)
  refine lv_aload_n hx hb q0 rfl hl1 ?_
  refine P1 H locs cn sn _ hS ?_
  refine lw_call1 Cx hN e1 x1 t1 lw_okc hP hD hS hsz has hb1 M1 Y1 I1 S1 L1 R1 c1 s1 z1 b1 d1 f1 g1 TR1 q1 hcn hsn (Nat.le_of_ble_eq_true rfl) (fun o ho u h1' T r H1 locs1 hT hr hpo a1 a2 a3 a4 a5 hP1 hD1 hS1 => ?_)
  have hT := List.mem_singleton.mp hT
  subst hT
  refine lv_pop hx hb q2 rfl ?_
  refine lv_aload_n hx hb q3 rfl hl2 ?_
  refine P2 H1 locs1 cn sn _ hS1 ?_
  refine lw_call1 Cx hN e2 x2 t2 ok2 hP1 hD1 hS1 hsz has hb2 M2 Y2 I2 S2 L2 R2 c2 s2 z2 b2 d2 f2 g2 TR2 q4 hcn hsn (Nat.le_of_ble_eq_true rfl) (fun o2 ho2 u2 h2' T' r' H2 locs2 hT' hr' hpo2 v1 v2 v3 v4 v5 hP2 hD2 hS2 => ?_)
  refine lv_pop hx hb q5 rfl ?_
  refine lv_goto (tgt := 1566) hx hb q6 htgt ?_
  refine tail h1' h2' T' H2 locs2 (hTs T' hT') a3 v3 ⟨⟨a1, a2, a4⟩, ⟨v1, v2, v4⟩, ?_, hP2, hD2, hS2⟩
  have w1 : u.1 61 = h1.1 61 := (congrArg Prod.fst (hpo.1 61 (Nat.lt_of_lt_of_le ck1.1 ck1.2))).trans ((lw_g_ag h1 lw_Ec.length 0 as).1 61 ck1.1)
  have w2 : u2.1 25 = h2.1 25 := (congrArg Prod.fst (hpo2.1 25 (Nat.lt_of_lt_of_le ck2.1 ck2.2))).trans ((lw_g_ag h2 E2.length 0 as).1 25 ck2.1)
  rw [a5, v5, w1, w2]
  exact hck
end
