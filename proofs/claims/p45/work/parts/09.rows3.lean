/-! rows: lengths, new cells, copies, switches, the few members of the JDK that are rows of the kit -/
def rv_catS (K : List rv_V) : Nat := match K with
  | [] => 0
  | a :: r => (bif Nat.beq a.1 1 then 2 else 1) + rv_catS r
theorem rv_catS_ok (g : rv_G) : ∀ K : List rv_V, ((K.map (rv_v g)).map fun v => v.category).sum = rv_catS K
  | [] => rfl
  | a :: r => by
    have ih := rv_catS_ok g r
    rw [List.map_cons, List.map_cons, List.sum_cons, ih]
    show _ = (bif Nat.beq a.1 1 then 2 else 1) + rv_catS r
    have q := rv_cat g a
    rcases lv_cat (rv_v g a) with h | h
    · rw [h] at q ⊢
      have q : Nat.beq a.1 1 = false := q.symm
      rw [q]
      rfl
    · rw [h] at q ⊢
      have q : Nat.beq a.1 1 = true := q.symm
      rw [q]
      rfl
/-- one cell more -/
def rv_nc (g : rv_G) (N q : Nat) : rv_G := (g.1, fun k => if k = N then q else g.2.1 k, g.2.2)
theorem rv_nc_ag (g : rv_G) (n N q : Nat) : rv_ag g (rv_nc g N q) n N := ⟨fun _ _ => rfl, fun _ hk => if_neg (Nat.ne_of_lt hk), fun _ _ => rfl, rfl⟩
theorem rv_nc_w {cy : Nat → ClassId} (g : rv_G) {n q : Nat} {X : List rv_C} {cd : rv_C} (hX : ∀ c ∈ X, rv_okc n X.length c) : rv_w cy (rv_nc g X.length q) (X ++ [cd]) = rv_w cy g X ++ [(q, rv_d cy (rv_nc g X.length q) cd)] := by
  have h1 : rv_w cy (rv_nc g X.length q) (X ++ [cd]) = rv_w cy (rv_nc g X.length q) X ++ [rv_c cy (rv_nc g X.length q) X.length cd] := by
    unfold rv_w
    rw [List.mapIdx_append]
    simp
  rw [h1, rv_w_ag (rv_nc_ag g n X.length q) hX]
  congr 2
  show ((if X.length = X.length then q else _), _) = _
  rw [if_pos rfl]
section
variable {p : Program} {l : Launch} {e : Env} {R : Room} {s : State} {m : MethodId} {args : Array Value} {below : List Frame} {meth : Method} {c : Code} {Q : State → Prop} {D : va_G} {cl : List vw_C} {A : Nat → Prop} {cy : Nat → ClassId} {nL : Nat} {ρ : rv_Ho}
variable {cc : ByteArray} {own : String} {Ts : List Jvm.Cond} {pc pc' : Nat} {E : List rv_E} {L : List (Nat × rv_V)} {K r : List rv_V} {X : List rv_C} {cn sn : Nat} {g : rv_G} {ls : Array Slot} {H : Heap} {locs : List Loc} {st : Nat → Nat}
theorem rv_o_alen (Cx : rv_Cx p s m args c cc own nL Ts D cl cy A st) (hdg : decode cc pc = .ok (.arraylength, 1)) {q : Nat} {a : rv_Ar} (hq : X[q]? = some (.inr a)) (h1 : Nat.ble a.1 3 = true) (h2 : Nat.ble a.2.1 2147483647 = true)
    (ok : rv_Ok p l e R s m args below meth c Q D cl A cy nL ρ (pc + 1) (E ++ [(Int.ofNat a.2.1, Int.ofNat a.2.1, E.length, 0, [])]) L ((0, E.length) :: r) X cn sn) : rv_Ok p l e R s m args below meth c Q D cl A cy nL ρ pc E L ((2, q) :: r) X cn sn := by
  obtain ⟨hx, hbb, -, hown, hts, hK, -⟩ := Cx
  intro g ls H locs RR
  have hr : ∀ a ∈ r, rv_ok E.length X.length a := fun a h => RR.kK a (List.mem_cons_of_mem _ h)
  rw [Nat.ble_eq] at h1 h2
  have ht : (Int32.ofNat a.2.1).toInt = Int.ofNat a.2.1 := nI_toInt (n := a.2.1) (by omega)
  have k := rv_pushI (pc' := pc + 1) (x := Int32.ofNat a.2.1) RR hr (rv_own (g := g) (lo := Int.ofNat a.2.1) (hi := Int.ofNat a.2.1) (by rw [ht]; exact Int.le_refl _) (by rw [ht]; exact Int.le_refl _)) rv_fs_nil ok
  have hw := rv_w_at (cy := cy) (g := g) hq
  obtain ⟨t, n, lo, hi2, tr, ct⟩ := a
  have hty : ∃ ty, (rv_tys cy)[t]? = some (cy t, ty) := by
    match t, h1 with
    | 0, _ => exact ⟨_, rfl⟩
    | 1, _ => exact ⟨_, rfl⟩
    | 2, _ => exact ⟨_, rfl⟩
    | 3, _ => exact ⟨_, rfl⟩
  obtain ⟨ty, hty⟩ := hty
  exact va_alen (D := D) (cl := cl) (a := g.2.1 q) hx hbb hK RR.2.2.2.2.2.1 q t hw hty rfl hdg k
theorem rv_R.nc (RR : rv_R D cl A s.heap cy nL ρ g E L K X ls H locs) {q : Nat} {cd : rv_C} {H' : Heap} {locs' : List Loc} (h1 : rv_okc E.length X.length cd) (h2 : ∀ a, cd = .inr a → rv_a g a) (hP : va_P D cl (rv_w cy g X ++ [(q, rv_d cy (rv_nc g X.length q) cd)]) H') (hD : va_D A (rv_w cy g X ++ [(q, rv_d cy (rv_nc g X.length q) cd)])) (hS : va_S A s.heap H' locs') : rv_R D cl A s.heap cy nL ρ (rv_nc g X.length q) E L K (X ++ [cd]) ls H' locs' := by
  obtain ⟨he, hx, ⟨w1, w2, w3, w4⟩, hh, hl, -, -, -⟩ := RR
  have hag := rv_nc_ag g E.length X.length q
  have hlen : (X ++ [cd]).length = X.length + 1 := by simp
  refine ⟨he, ?_, ⟨w1, ?_, ?_, ?_⟩, ⟨hh.1, fun k a hk => ⟨by rw [hlen]; exact Nat.lt_succ_of_lt (hh.2.1 k a hk).1, by rw [hag.2.1 k (hh.2.1 k a hk).1]; exact (hh.2.1 k a hk).2⟩, hh.2.2⟩, ?_, ?_, ?_, hS⟩
  · intro k a hk
    by_cases hlt : k < X.length
    · rw [List.getElem?_append_left hlt] at hk
      exact hx k a hk
    · rw [List.getElem?_append_right (by omega)] at hk
      have hz : k - X.length < 1 := (List.getElem?_eq_some_iff.mp hk).1
      have hke : k = X.length := by omega
      subst hke
      rw [Nat.sub_self] at hk
      exact h2 a (Option.some.inj hk)
  · rw [hlen]; exact fun q hq => rv_ok_mono (Nat.le_refl _) (by omega) (w2 q hq)
  · rw [hlen]; exact fun q hq => rv_ok_mono (Nat.le_refl _) (by omega) (w3 q hq)
  · rw [hlen]
    intro z hz
    rcases List.mem_append.mp hz with h | h
    · exact rv_okc_mono (Nat.le_refl _) (by omega) (w4 z h)
    · rw [List.mem_singleton.mp h]
      exact rv_okc_mono (Nat.le_refl _) (by omega) h1
  · rw [rv_L_ag hag w2]; exact hl
  · rw [rv_nc_w g w4]; exact hP
  · rw [rv_nc_w g w4]; exact hD
def rv_at (t : ArrayType) : Nat := match t with
  | .byte => 0
  | .int => 1
  | .long => 2
  | .boolean => 3
  | _ => 9
theorem rv_o_newa (Cx : rv_Cx p s m args c cc own nL Ts D cl cy A st) {at0 : ArrayType} (hdg : decode cc pc = .ok (.newarray at0, 2)) (harr : Jvm.Cond.arrayClass (newarray.typeOf at0) ∈ Ts) {i n : Nat} {ei : rv_E} (hi : E[i]? = some ei) (h0 : Nat.ble (rv_at at0) 3 = true) (h1 : ei.1 = Int.ofNat n) (h2 : ei.2.1 = Int.ofNat n) (h3 : Nat.ble n 60000000 = true) (h4 : cn + 1 ≤ R.cells) (h5 : sn + n ≤ R.slots)
    (ok : rv_Ok p l e R s m args below meth c Q D cl A cy nL ρ (pc + 2) (E ++ [(0, 0, E.length, 0, [])]) L ((2, X.length) :: r) (X ++ [.inr (rv_at at0, n, 0, 0, [], E.length)]) (cn + 1) (sn + n)) : rv_Ok p l e R s m args below meth c Q D cl A cy nL ρ pc E L ((0, i) :: r) X cn sn := by
  obtain ⟨hx, hbb, -, hown, hts, hK, hA, -⟩ := Cx
  intro g ls H locs RR
  have hr : ∀ a ∈ r, rv_ok E.length X.length a := fun a h => RR.kK a (List.mem_cons_of_mem _ h)
  obtain ⟨b1, b2, -⟩ := RR.1 i ei hi
  have gi : g.1 i = Int.ofNat n := by rw [h1] at b1; rw [h2] at b2; omega
  rw [Nat.ble_eq] at h0 h3
  have hnI : Int32.ofInt (g.1 i) = nI n := by
    rw [gi]
    rfl
  show W p l e R s m args below meth c H locs cn sn Q (F0 m pc ls (.int (Int32.ofInt (g.1 i)) :: r.map (rv_v g)))
  rw [hnI]
  have hne : ¬ nI n < 0 := nI_pos (n := n) (by omega)
  have hcl : (nI n).toNatClampNeg = n := nI_clamp (n := n) (by omega)
  have hrg := rv_K_ag (rv_up_ag g E.length X.length 0 (fun _ => 0)) hr
  have R0 := (RR.sK hr).fresh (f := fun _ => 0) (fs := []) (Int.le_refl 0) (Int.le_refl 0) (Or.inl ⟨rfl, rfl⟩) rv_fs_nil
  have ewg : rv_w cy (rv_up g E.length 0 (fun _ => 0)) X = rv_w cy g X := rv_w_ag (rv_up_ag g E.length X.length 0 (fun _ => 0)) RR.2.2.1.2.2.2
  have hlen : (E ++ [((0 : Int), (0 : Int), E.length, (0 : Int), ([] : List rv_Fc))]).length = E.length + 1 := by simp
  have go : ∀ (q : Nat) (cA : ClassId) (H1 : Heap) (ty : FieldType) (f : va_E), cA = cy (rv_at at0) → f = rv_d cy (rv_nc (rv_up g E.length 0 (fun _ => 0)) X.length q) (.inr (rv_at at0, n, 0, 0, [], E.length)) → va_P D cl (rv_w cy g X ++ [(q, f)]) H1 → va_D A (rv_w cy g X ++ [(q, f)]) → va_S A s.heap H1 locs → W p l e R s m args below meth c H1 locs (cn + 1) (sn + n) Q (F0 m (pc + 2) ls (.ref q :: r.map (rv_v g))) := by
    intro q cA H1 ty f _ hf hP1 hD1 hS1
    subst hf
    rw [← ewg] at hP1 hD1
    have R1 := R0.nc (q := q) (cd := .inr (rv_at at0, n, 0, 0, [], E.length)) ⟨fun z hz => (by cases hz), by rw [hlen]; exact Nat.lt_succ_self _⟩ (fun a ha => by
      have ha := Sum.inr.inj ha
      subst ha
      intro j
      refine ⟨fun i hi => (by cases hi), fun _ => ?_⟩
      show (0 : Int) ≤ (rv_up g E.length 0 (fun _ => 0)).2.2.1 E.length j ∧ (rv_up g E.length 0 (fun _ => 0)).2.2.1 E.length j ≤ 0
      rw [rv_up_selfc]
      exact ⟨Int.le_refl _, Int.le_refl _⟩) hP1 hD1 hS1
    have h6 := ok _ ls H1 locs (R1.sK (K' := (2, X.length) :: r) fun b hb => by
      rw [List.length_append (as := X), hlen]
      rcases List.mem_cons.mp hb with h | h
      · rw [h]
        exact ⟨fun q => by have q : 2 < 2 := q; omega, fun _ => by simp⟩
      · exact rv_ok_mono (by omega) (by simp) (hr b h))
    rw [List.map_cons, rv_K_ag (rv_nc_ag (rv_up g E.length 0 (fun _ => 0)) E.length X.length q) hr, hrg] at h6
    have e2 : rv_v (rv_nc (rv_up g E.length 0 (fun _ => 0)) X.length q) (2, X.length) = .ref q := by
      show Value.ref (if X.length = X.length then q else _) = _
      rw [if_pos rfl]
    rw [e2] at h6
    exact h6
  have hw4 : ∀ k : Nat, (fun _ : Nat => Int32.ofInt 0) k = 0 := fun _ => rfl
  have same : ∀ {cA cB : ClassId} {nm : String}, s.vm.findClass nm = some cA → s.vm.findClass nm = some cB → cA = cB := fun h1 h2 => Option.some.inj (h1.symm.trans h2)
  cases at0 <;> first
    | (exact absurd h0 (by decide))
    | (refine va_newa (D := D) (cl := cl) (ty := .int) (a0 := (n, .inl (fun _ => 0))) hx hbb (hts _ harr) rfl hK RR.2.2.2.2.2.1 RR.2.2.2.2.2.2.1 RR.2.2.2.2.2.2.2 hA (fun cA => rfl) hne hcl (by show n * 4 ≤ _; omega) h4 h5 hdg (fun q cA H1 hK1 hP1 hD1 hS1 => ?_)
       have ec : cA = cy 1 := same ((hK1.2 4 (cA, .int) rfl).2) ((hK.2 1 _ rfl).2)
       exact go q cA H1 .int _ ec (by
         subst ec
         show _ = Sum.inl (cy 1, n, Sum.inl (fun j => Int32.ofInt ((rv_up g E.length 0 (fun _ => 0)).2.2.1 E.length j)))
         rw [rv_up_selfc]; rfl) hP1 hD1 hS1)
    | (refine va_newa (D := D) (cl := cl) (ty := .byte) (a0 := (n, .inl (fun _ => 0))) hx hbb (hts _ harr) rfl hK RR.2.2.2.2.2.1 RR.2.2.2.2.2.2.1 RR.2.2.2.2.2.2.2 hA (fun cA => rfl) hne hcl (by show n * 1 ≤ _; omega) h4 h5 hdg (fun q cA H1 hK1 hP1 hD1 hS1 => ?_)
       have ec : cA = cy 0 := same ((hK1.2 4 (cA, .byte) rfl).2) ((hK.2 0 _ rfl).2)
       exact go q cA H1 .byte _ ec (by
         subst ec
         show _ = Sum.inl (cy 0, n, Sum.inl (fun j => Int32.ofInt ((rv_up g E.length 0 (fun _ => 0)).2.2.1 E.length j)))
         rw [rv_up_selfc]; rfl) hP1 hD1 hS1)
    | (refine va_newa (D := D) (cl := cl) (ty := .boolean) (a0 := (n, .inl (fun _ => 0))) hx hbb (hts _ harr) rfl hK RR.2.2.2.2.2.1 RR.2.2.2.2.2.2.1 RR.2.2.2.2.2.2.2 hA (fun cA => rfl) hne hcl (by show n * 1 ≤ _; omega) h4 h5 hdg (fun q cA H1 hK1 hP1 hD1 hS1 => ?_)
       have ec : cA = cy 3 := same ((hK1.2 4 (cA, .boolean) rfl).2) ((hK.2 3 _ rfl).2)
       exact go q cA H1 .boolean _ ec (by
         subst ec
         show _ = Sum.inl (cy 3, n, Sum.inl (fun j => Int32.ofInt ((rv_up g E.length 0 (fun _ => 0)).2.2.1 E.length j)))
         rw [rv_up_selfc]; rfl) hP1 hD1 hS1)
    | (refine va_newa (D := D) (cl := cl) (ty := .long) (a0 := (n, .inr (.inl (fun _ => 0)))) hx hbb (hts _ harr) rfl hK RR.2.2.2.2.2.1 RR.2.2.2.2.2.2.1 RR.2.2.2.2.2.2.2 hA (fun cA => rfl) hne hcl (by show n * 8 ≤ _; omega) h4 h5 hdg (fun q cA H1 hK1 hP1 hD1 hS1 => ?_)
       have ec : cA = cy 2 := same ((hK1.2 4 (cA, .long) rfl).2) ((hK.2 2 _ rfl).2)
       exact go q cA H1 .long _ ec (by
         subst ec
         show _ = Sum.inl (cy 2, n, Sum.inr (Sum.inl (fun j => Int64.ofInt ((rv_up g E.length 0 (fun _ => 0)).2.2.1 E.length j))))
         rw [rv_up_selfc]; rfl) hP1 hD1 hS1)
/-- a class's entry: its number in the pool, the class's, its fields' types -/
abbrev rv_Nd := Nat × Nat × List Nat
def rv_N1 (own : String) (Ts : List Jvm.Cond) (cl : List vw_C) (q : rv_Nd) : Prop := ∃ (C : String) (T : u_T) (N : Nat) (ty0 : Nat → FieldType), cl[q.2.1]? = some (C, T, N) ∧ (∀ w ∈ u_ws C T N, w ∈ Ts) ∧ (∀ k, k < N → parseFieldDescriptor (T k).2.2.1 = some (ty0 k)) ∧ Jvm.Cond.classLink own q.1 C ∈ Ts ∧ Jvm.Cond.instantiable C N ∈ Ts ∧ Jvm.Cond.initialized C ∈ Ts ∧ q.2.2.length = N ∧ ∀ k, k < N → (q.2.2)[k]? = some (rv_tc (ty0 k)) ∧ rv_tc (ty0 k) < 4
def rv_df (n : Nat) (t : Nat) : rv_V := match t with
  | 3 => (3, 0)
  | 2 => (1, n)
  | _ => (0, n)
theorem rv_o_new (Cx : rv_Cx p s m args c cc own nL Ts D cl cy A st) {nd : rv_Nd} (hN : rv_N1 own Ts cl nd) (hdg : decode cc pc = .ok (.new nd.1, 3)) (h4 : cn + 1 ≤ R.cells) (h5 : sn + nd.2.2.length ≤ R.slots)
    (ok : rv_Ok p l e R s m args below meth c Q D cl A cy nL ρ (pc + 3) (E ++ [(0, 0, E.length, 0, [])]) L ((2, X.length) :: K) (X ++ [.inl (nd.2.1, nd.2.2.map (rv_df E.length))]) (cn + 1) (sn + nd.2.2.length)) : rv_Ok p l e R s m args below meth c Q D cl A cy nL ρ pc E L K X cn sn := by
  obtain ⟨hx, hbb, -, hown, hts, hK, hA, -⟩ := Cx
  obtain ⟨C, T, N, ty0, f1, f2, f3, f4, f5, f6, f7, f8⟩ := hN
  intro g ls H locs RR
  have R0 := RR.fresh (z := 0) (lo := 0) (hi := 0) (base := E.length) (off := 0) (f := fun _ => 0) (fs := []) (Int.le_refl _) (Int.le_refl _) (Or.inl ⟨rfl, rfl⟩) rv_fs_nil
  have hag0 := rv_up_ag g E.length X.length 0 (fun _ => 0)
  have hlen : (E ++ [((0 : Int), (0 : Int), E.length, (0 : Int), ([] : List rv_Fc))]).length = E.length + 1 := by simp
  rw [f7] at h5 ok
  have h0 : (rv_up g E.length 0 (fun _ => 0)).1 E.length = 0 := rv_up_self _ _ _ _
  have hdf : ∀ t, t < 4 → rv_ok (E.length + 1) X.length (rv_df E.length t) := by
    intro t ht
    match t, ht with
    | 0, _ => exact ⟨fun _ => Nat.lt_succ_self _, fun q => by cases q⟩
    | 1, _ => exact ⟨fun _ => Nat.lt_succ_self _, fun q => by cases q⟩
    | 2, _ => exact ⟨fun _ => Nat.lt_succ_self _, fun q => by cases q⟩
    | 3, _ => exact ⟨fun q => by have q : 3 < 2 := q; omega, fun q => by cases q⟩
  have hfs : ∀ j, j < N → defaultValue (ty0 j) = vp_V ((nd.2.2.map (rv_df E.length)).map (rv_v (rv_up g E.length 0 (fun _ => 0)))) j := by
    intro j hj
    obtain ⟨q1, q2⟩ := f8 j hj
    have q3 : ((nd.2.2.map (rv_df E.length)).map (rv_v (rv_up g E.length 0 (fun _ => 0))))[j]? = some (rv_v (rv_up g E.length 0 (fun _ => 0)) (rv_df E.length (rv_tc (ty0 j)))) := by
      rw [List.getElem?_map, List.getElem?_map, q1]
      rfl
    unfold vp_V
    rw [List.getD_eq_getElem?_getD, q3]
    show _ = rv_v (rv_up g E.length 0 (fun _ => 0)) (rv_df E.length (rv_tc (ty0 j)))
    cases hty : ty0 j <;> rw [hty] at q2 <;> first
      | (exact absurd q2 (by decide))
      | rfl
      | (show _ = Value.int (Int32.ofInt ((rv_up g E.length 0 (fun _ => 0)).1 E.length)); rw [h0]; rfl)
      | (show _ = Value.long (Int64.ofInt ((rv_up g E.length 0 (fun _ => 0)).1 E.length)); rw [h0]; rfl)
  have hPg := R0.2.2.2.2.2.1
  have hDg := R0.2.2.2.2.2.2.1
  refine va_new (D := D) (cl := cl) (ci := nd.2.1) (C := C) (T := T) (N := N) hx hbb hts f2 ty0 f3 hown (hts _ f4) (hts _ f5) (hts _ f6) hK hPg hDg RR.2.2.2.2.2.2.2 hA f1 hfs h4 h5 hdg (fun q H1 hP1 hD1 hS1 => ?_)
  have R1 := R0.nc (q := q) (cd := .inl (nd.2.1, nd.2.2.map (rv_df E.length))) (by
    intro a ha
    rw [hlen]
    obtain ⟨t, ht, rfl⟩ := List.mem_map.mp ha
    obtain ⟨k, hk⟩ := List.getElem?_of_mem ht
    have hkN : k < N := by rw [← f7]; exact (List.getElem?_eq_some_iff.mp hk).1
    obtain ⟨q1, q2⟩ := f8 k hkN
    have e3 : t = rv_tc (ty0 k) := Option.some.inj (hk.symm.trans q1)
    rw [e3]
    exact hdf _ q2) (fun a ha => by cases ha) (by
      have e4 : rv_d cy (rv_nc (rv_up g E.length 0 (fun _ => 0)) X.length q) (.inl (nd.2.1, nd.2.2.map (rv_df E.length))) = .inr (nd.2.1, (nd.2.2.map (rv_df E.length)).map (rv_v (rv_up g E.length 0 (fun _ => 0)))) := by
        show Sum.inr (nd.2.1, (nd.2.2.map (rv_df E.length)).map (rv_v (rv_nc (rv_up g E.length 0 (fun _ => 0)) X.length q))) = _
        rw [rv_K_ag (rv_nc_ag (rv_up g E.length 0 (fun _ => 0)) (E.length + 1) X.length q) (fun a ha => by
          obtain ⟨t, ht, rfl⟩ := List.mem_map.mp ha
          obtain ⟨k, hk⟩ := List.getElem?_of_mem ht
          have hkN : k < N := by rw [← f7]; exact (List.getElem?_eq_some_iff.mp hk).1
          obtain ⟨q1, q2⟩ := f8 k hkN
          have e3 : t = rv_tc (ty0 k) := Option.some.inj (hk.symm.trans q1)
          rw [e3]
          exact hdf _ q2)]
      rw [e4]
      exact hP1) (by
      have e4 : rv_d cy (rv_nc (rv_up g E.length 0 (fun _ => 0)) X.length q) (.inl (nd.2.1, nd.2.2.map (rv_df E.length))) = .inr (nd.2.1, (nd.2.2.map (rv_df E.length)).map (rv_v (rv_up g E.length 0 (fun _ => 0)))) := by
        show Sum.inr (nd.2.1, (nd.2.2.map (rv_df E.length)).map (rv_v (rv_nc (rv_up g E.length 0 (fun _ => 0)) X.length q))) = _
        rw [rv_K_ag (rv_nc_ag (rv_up g E.length 0 (fun _ => 0)) (E.length + 1) X.length q) (fun a ha => by
          obtain ⟨t, ht, rfl⟩ := List.mem_map.mp ha
          obtain ⟨k, hk⟩ := List.getElem?_of_mem ht
          have hkN : k < N := by rw [← f7]; exact (List.getElem?_eq_some_iff.mp hk).1
          obtain ⟨q1, q2⟩ := f8 k hkN
          have e3 : t = rv_tc (ty0 k) := Option.some.inj (hk.symm.trans q1)
          rw [e3]
          exact hdf _ q2)]
      rw [e4]
      exact hD1) hS1
  have hkeep : ∀ b ∈ K, rv_ok (E ++ [((0 : Int), (0 : Int), E.length, (0 : Int), ([] : List rv_Fc))]).length X.length b := R0.kK
  have h6 := ok _ ls H1 locs (R1.sK (K' := (2, X.length) :: K) fun b hb => by
    rw [List.length_append (as := X)]
    rcases List.mem_cons.mp hb with h | h
    · rw [h]
      exact ⟨fun q => by have q : 2 < 2 := q; omega, fun _ => by simp⟩
    · exact rv_ok_mono (Nat.le_refl _) (by simp) (hkeep b h))
  rw [List.map_cons, rv_K_ag (rv_nc_ag (rv_up g E.length 0 (fun _ => 0)) _ X.length q) hkeep, rv_K_ag hag0 RR.kK] at h6
  have e2 : rv_v (rv_nc (rv_up g E.length 0 (fun _ => 0)) X.length q) (2, X.length) = .ref q := by
    show Value.ref (if X.length = X.length then q else _) = _
    rw [if_pos rfl]
  rw [e2] at h6
  exact h6
end
