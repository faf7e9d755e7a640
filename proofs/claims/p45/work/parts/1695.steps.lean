/-! steps over such environments -/
def rf_SP (r : Option (List rv_M)) (s : Option (List rv_N)) : Prop := ∀ Ms, r = some Ms → s = some (Ms.map rf_toN) ∧ ∀ M ∈ Ms, rf_I M.2.1
section
variable {F : rv_F} {L : List (Nat × rv_V)} {K : List rv_V} {X : List rv_C} {cn sn n pc : Nat}
theorem rf_none {s : Option (List rv_N)} : rf_SP none s := fun _ h => by cases h
theorem rf_same (h : rf_I F) : rf_SP (some [(n, F, L, K, X, cn, sn)]) (some [(n, rf_toE F, L, K, X, cn, sn)]) := by
  intro Ms hM
  have hM := Option.some.inj hM
  subst hM
  exact ⟨rfl, fun M hM => by rw [List.mem_singleton.mp hM]; exact h⟩
theorem rf_more (h : rf_I F) (e : rv_E) : rf_SP (rf_push F e (fun F' => some [(n, F', L, K, X, cn, sn)])) (some [(n, rf_toE F ++ [e], L, K, X, cn, sn)]) := by
  rw [rf_push_eq, ← rf_p_eq]
  exact rf_same (rf_p_I h e)
noncomputable def rf_k (x : Int) (n : Nat) (F : rv_F) (L : List (Nat × rv_V)) (K : List rv_V) (X : List rv_C) (cn sn : Nat) : Option (List rv_M) := rf_push F (x, x, F.2.2.2.2.1, 0, []) (fun F' => some [(n, F', L, (0, F.2.2.2.2.1) :: K, X, cn, sn)])
theorem rf_k_ok (h : rf_I F) (x : Int32) : rf_SP (rf_k x.toInt n F L K X cn sn) (rv_s_k x n (rf_toE F) L K X cn sn) := by
  unfold rf_k rv_s_k
  rw [rf_len h]
  exact rf_more h _
noncomputable def rf_ld (k i n : Nat) (F : rv_F) (L : List (Nat × rv_V)) (K : List rv_V) (X : List rv_C) (cn sn : Nat) : Option (List rv_M) := match rv_lk L i with
  | some a => bif Nat.beq a.1 k then some [(n, F, L, a :: K, X, cn, sn)] else none
  | none => none
theorem rf_ld_ok (h : rf_I F) (k i : Nat) : rf_SP (rf_ld k i n F L K X cn sn) (rv_s_ld k i n (rf_toE F) L K X cn sn) := by
  unfold rf_ld rv_s_ld
  cases rv_lk L i with
  | none => exact rf_none
  | some a =>
    dsimp only
    cases Nat.beq a.1 k with
    | false => exact rf_none
    | true => exact rf_same h
noncomputable def rf_lda (i n : Nat) (F : rv_F) (L : List (Nat × rv_V)) (K : List rv_V) (X : List rv_C) (cn sn : Nat) : Option (List rv_M) := match rv_lk L i with
  | some a => bif Nat.beq a.1 2 then some [(n, F, L, a :: K, X, cn, sn)] else none
  | none => none
theorem rf_lda_ok (h : rf_I F) (i : Nat) : rf_SP (rf_lda i n F L K X cn sn) (rs_s_ld i n (rf_toE F) L K X cn sn) := by
  unfold rf_lda rs_s_ld
  cases hl : rv_lk L i with
  | none => exact rf_none
  | some a =>
    dsimp only
    cases hb : Nat.beq a.1 2 with
    | false => exact rf_none
    | true =>
      obtain ⟨a1, a2⟩ := a
      have hb : a1 = 2 := Nat.eq_of_beq_eq_true hb
      subst hb
      unfold rv_s_ld
      rw [hl]
      exact rf_same h
noncomputable def rf_st (k i nL n : Nat) (F : rv_F) (L : List (Nat × rv_V)) (K : List rv_V) (X : List rv_C) (cn sn : Nat) : Option (List rv_M) := match K with
  | a :: r => bif Nat.beq a.1 k && Nat.ble (i + 1) nL then rv_fp (rv_st L i a) (fun L' => some [(n, F, L', r, X, cn, sn)]) else none
  | [] => none
theorem rf_st_ok (h : rf_I F) (k i nL : Nat) : rf_SP (rf_st k i nL n F L K X cn sn) (rv_s_st k i nL n (rf_toE F) L K X cn sn) := by
  unfold rf_st rv_s_st
  cases K with
  | nil => exact rf_none
  | cons a r =>
    dsimp only
    rw [rv_fp_eq]
    cases (Nat.beq a.1 k && Nat.ble (i + 1) nL) with
    | false => exact rf_none
    | true => exact rf_same h
noncomputable def rf_bin (op n : Nat) (F : rv_F) (L : List (Nat × rv_V)) (K : List rv_V) (X : List rv_C) (cn sn : Nat) : Option (List rv_M) := match K with
  | (0, y) :: (0, x) :: r => match rf_g F x, rf_g F y with
    | some a, some b => bif rv_i32 a && (rv_i32 b && rv_dv op b) then rf_push F (rv_ent op F.2.2.2.2.1 [(rv_tag op, [F.2.2.2.2.1, x, y])] a b) (fun F' => some [(n, F', L, (0, F.2.2.2.2.1) :: r, X, cn, sn)]) else none
    | _, _ => none
  | _ => none
theorem rf_bin_ok (h : rf_I F) (op : Nat) : rf_SP (rf_bin op n F L K X cn sn) (rv_s_bin op n (rf_toE F) L K X cn sn) := by
  unfold rf_bin
  split
  · rename_i y x r
    rw [rf_g_eq h, rf_g_eq h]
    show rf_SP _ (match (rf_toE F)[x]?, (rf_toE F)[y]? with
      | some a, some b => bif rv_i32 a && (rv_i32 b && rv_dv op b) then some [(n, rf_toE F ++ [rv_ent op (rf_toE F).length [(rv_tag op, [(rf_toE F).length, x, y])] a b], L, (0, (rf_toE F).length) :: r, X, cn, sn)] else none
      | _, _ => none)
    rw [rf_len h]
    cases (rf_toE F)[x]? with
    | none => exact rf_none
    | some a =>
      cases (rf_toE F)[y]? with
      | none => exact rf_none
      | some b =>
        dsimp only
        cases (rv_i32 a && (rv_i32 b && rv_dv op b)) with
        | false => exact rf_none
        | true => exact rf_more h _
  · exact rf_none
noncomputable def rf_un (op n : Nat) (F : rv_F) (L : List (Nat × rv_V)) (K : List rv_V) (X : List rv_C) (cn sn : Nat) : Option (List rv_M) := match K with
  | (0, x) :: r => match rf_g F x with
    | some a => bif rv_i32 a then rf_push F ((rv_unb op a).1, (rv_unb op a).2, F.2.2.2.2.1, 0, []) (fun F' => some [(n, F', L, (0, F.2.2.2.2.1) :: r, X, cn, sn)]) else none
    | none => none
  | _ => none
theorem rf_un_ok (h : rf_I F) (op : Nat) : rf_SP (rf_un op n F L K X cn sn) (rv_s_un op n (rf_toE F) L K X cn sn) := by
  unfold rf_un
  split
  · rename_i x r
    rw [rf_g_eq h]
    show rf_SP _ (match (rf_toE F)[x]? with
      | some a => bif rv_i32 a then some [(n, rf_toE F ++ [((rv_unb op a).1, (rv_unb op a).2, (rf_toE F).length, 0, [])], L, (0, (rf_toE F).length) :: r, X, cn, sn)] else none
      | none => none)
    rw [rf_len h]
    cases (rf_toE F)[x]? with
    | none => exact rf_none
    | some a =>
      dsimp only
      cases rv_i32 a with
      | false => exact rf_none
      | true => exact rf_more h _
  · exact rf_none
noncomputable def rf_iinc (i : Nat) (z : Int) (nL n : Nat) (F : rv_F) (L : List (Nat × rv_V)) (K : List rv_V) (X : List rv_C) (cn sn : Nat) : Option (List rv_M) := match rv_lk L i with
  | some (0, x) => match rf_g F x with
    | some a => bif rv_i32 a && (Nat.ble (i + 1) nL && (rv_le rv_lo z && rv_le z rv_hi)) then rf_push F (rv_ent 0 F.2.2.2.2.1 [] a (z, z, F.2.2.2.2.1, 0, [])) (fun F' => rv_fp (rv_st L i (0, F.2.2.2.2.1)) (fun L' => some [(n, F', L', K, X, cn, sn)])) else none
    | none => none
  | _ => none
theorem rf_iinc_ok (h : rf_I F) (i : Nat) (z : Int) (nL : Nat) : rf_SP (rf_iinc i z nL n F L K X cn sn) (rv_s_iinc i z nL n (rf_toE F) L K X cn sn) := by
  unfold rf_iinc rv_s_iinc
  cases hl : rv_lk L i with
  | none => exact rf_none
  | some v =>
    obtain ⟨k, x⟩ := v
    match k with
    | k + 1 => exact rf_none
    | 0 =>
      show rf_SP (match rf_g F x with
        | some a => bif rv_i32 a && (Nat.ble (i + 1) nL && (rv_le rv_lo z && rv_le z rv_hi)) then rf_push F (rv_ent 0 F.2.2.2.2.1 [] a (z, z, F.2.2.2.2.1, 0, [])) (fun F' => rv_fp (rv_st L i (0, F.2.2.2.2.1)) (fun L' => some [(n, F', L', K, X, cn, sn)])) else none
        | none => none) (match (rf_toE F)[x]? with
        | some a => bif rv_i32 a && (Nat.ble (i + 1) nL && (rv_le rv_lo z && rv_le z rv_hi)) then some [(n, rf_toE F ++ [rv_ent 0 (rf_toE F).length [] a (z, z, (rf_toE F).length, 0, [])], rv_st L i (0, (rf_toE F).length), K, X, cn, sn)] else none
        | none => none)
      rw [rf_g_eq h, rf_len h]
      cases (rf_toE F)[x]? with
      | none => exact rf_none
      | some a =>
        dsimp only
        cases (rv_i32 a && (Nat.ble (i + 1) nL && (rv_le rv_lo z && rv_le z rv_hi))) with
        | false => exact rf_none
        | true =>
          simp only [cond_true, rv_fp_eq]
          exact rf_more h _
theorem rf_mk_ok {n1 n2 : Nat} {r : List rv_V} {a b : List rv_F} {c d : List (List rv_E)} (h1 : rf_LS a c) (h2 : rf_LS b d) : rf_SP (some (a.map (fun G => (n1, G, L, r, X, cn, sn)) ++ b.map (fun G => (n2, G, L, r, X, cn, sn)))) (some (rv_mk n1 L r X cn sn c ++ rv_mk n2 L r X cn sn d)) := by
  intro Ms hM
  have hM := Option.some.inj hM
  subst hM
  obtain ⟨e1, i1⟩ := h1
  obtain ⟨e2, i2⟩ := h2
  subst e1
  subst e2
  refine ⟨?_, fun M hM => ?_⟩
  · unfold rv_mk
    rw [List.map_append, List.map_map, List.map_map, List.map_map, List.map_map]
    rfl
  · rcases List.mem_append.mp hM with z | z
    · obtain ⟨G, hG, rfl⟩ := List.mem_map.mp z
      exact i1 G hG
    · obtain ⟨G, hG, rfl⟩ := List.mem_map.mp z
      exact i2 G hG
noncomputable def rf_icmp (sp : Bool) (cd : Jvm.ClassFile.Cond) (off : Int) (pc : Nat) (F : rv_F) (L : List (Nat × rv_V)) (K : List rv_V) (X : List rv_C) (cn sn : Nat) : Option (List rv_M) := match K with
  | (0, y) :: (0, x) :: r => match rf_g F x, rf_g F y with
    | some a, some b => bif rv_i32 a && (rv_i32 b && rv_le 0 (Int.ofNat pc + off)) then some ((rf_push F (0, 0, F.2.2.2.2.1, 0, [rv_cf cd x y]) (fun G => rf_cT sp cd G x y)).map (fun G => (rv_tg pc off, G, L, r, X, cn, sn)) ++ (rf_push F (0, 0, F.2.2.2.2.1, 0, [rv_cf (rv_ng cd) x y]) (fun G => rf_cT sp (rv_ng cd) G x y)).map (fun G => (pc + 3, G, L, r, X, cn, sn))) else none
    | _, _ => none
  | _ => none
theorem rf_icmp_ok (h : rf_I F) (sp : Bool) (cd : Jvm.ClassFile.Cond) (off : Int) : rf_SP (rf_icmp sp cd off pc F L K X cn sn) (rv_s_icmp sp cd off pc (rf_toE F) L K X cn sn) := by
  unfold rf_icmp
  split
  · rename_i y x r
    rw [rf_g_eq h, rf_g_eq h]
    show rf_SP _ (match (rf_toE F)[x]?, (rf_toE F)[y]? with
      | some a, some b => bif rv_i32 a && (rv_i32 b && rv_le 0 (Int.ofNat pc + off)) then some (rv_mk (rv_tg pc off) L r X cn sn (rv_cT sp cd (rf_toE F ++ [(0, 0, (rf_toE F).length, 0, [rv_cf cd x y])]) x y) ++ rv_mk (pc + 3) L r X cn sn (rv_cT sp (rv_ng cd) (rf_toE F ++ [(0, 0, (rf_toE F).length, 0, [rv_cf (rv_ng cd) x y])]) x y)) else none
      | _, _ => none)
    rw [rf_len h]
    cases (rf_toE F)[x]? with
    | none => exact rf_none
    | some a =>
      cases (rf_toE F)[y]? with
      | none => exact rf_none
      | some b =>
        dsimp only
        cases (rv_i32 a && (rv_i32 b && rv_le 0 (Int.ofNat pc + off))) with
        | false => exact rf_none
        | true =>
          simp only [cond_true]
          rw [rf_push_eq, rf_push_eq, ← rf_p_eq, ← rf_p_eq]
          exact rf_mk_ok (rf_cT_ok (rf_p_I h _) _ _ _ _) (rf_cT_ok (rf_p_I h _) _ _ _ _)
  · exact rf_none
noncomputable def rf_if (sp : Bool) (cd : Jvm.ClassFile.Cond) (off : Int) (pc : Nat) (F : rv_F) (L : List (Nat × rv_V)) (K : List rv_V) (X : List rv_C) (cn sn : Nat) : Option (List rv_M) := match K with
  | (0, x) :: r => match rf_g F x with
    | some a => bif rv_i32 a && rv_le 0 (Int.ofNat pc + off) then some ((rf_push F (0, 0, F.2.2.2.2.1, 0, [rv_cf cd x F.2.2.2.2.1]) (fun G => rf_cE cd x a (rf_cT sp cd G x F.2.2.2.2.1))).map (fun G => (rv_tg pc off, G, L, r, X, cn, sn)) ++ (rf_push F (0, 0, F.2.2.2.2.1, 0, [rv_cf (rv_ng cd) x F.2.2.2.2.1]) (fun G => rf_cE (rv_ng cd) x a (rf_cT sp (rv_ng cd) G x F.2.2.2.2.1))).map (fun G => (pc + 3, G, L, r, X, cn, sn))) else none
    | none => none
  | _ => none
theorem rf_if_ok (h : rf_I F) (sp : Bool) (cd : Jvm.ClassFile.Cond) (off : Int) : rf_SP (rf_if sp cd off pc F L K X cn sn) (rv_s_if sp cd off pc (rf_toE F) L K X cn sn) := by
  unfold rf_if
  split
  · rename_i x r
    rw [rf_g_eq h]
    show rf_SP _ (match (rf_toE F)[x]? with
      | some a => bif rv_i32 a && rv_le 0 (Int.ofNat pc + off) then some (rv_mk (rv_tg pc off) L r X cn sn (rv_cE cd x a (rv_cT sp cd (rf_toE F ++ [(0, 0, (rf_toE F).length, 0, [rv_cf cd x (rf_toE F).length])]) x (rf_toE F).length)) ++ rv_mk (pc + 3) L r X cn sn (rv_cE (rv_ng cd) x a (rv_cT sp (rv_ng cd) (rf_toE F ++ [(0, 0, (rf_toE F).length, 0, [rv_cf (rv_ng cd) x (rf_toE F).length])]) x (rf_toE F).length))) else none
      | none => none)
    rw [rf_len h]
    cases (rf_toE F)[x]? with
    | none => exact rf_none
    | some a =>
      dsimp only
      cases (rv_i32 a && rv_le 0 (Int.ofNat pc + off)) with
      | false => exact rf_none
      | true =>
        simp only [cond_true]
        rw [rf_push_eq, rf_push_eq, ← rf_p_eq, ← rf_p_eq]
        exact rf_mk_ok (rf_cE_ok (rf_cT_ok (rf_p_I h _) _ _ _ _) _ _ _) (rf_cE_ok (rf_cT_ok (rf_p_I h _) _ _ _ _) _ _ _)
  · exact rf_none
noncomputable def rf_goto (off : Int) (pc : Nat) (F : rv_F) (L : List (Nat × rv_V)) (K : List rv_V) (X : List rv_C) (cn sn : Nat) : Option (List rv_M) := bif rv_le 0 (Int.ofNat pc + off) then some [(rv_tg pc off, F, L, K, X, cn, sn)] else none
theorem rf_goto_ok (h : rf_I F) (off : Int) : rf_SP (rf_goto off pc F L K X cn sn) (rv_s_goto off pc (rf_toE F) L K X cn sn) := by
  unfold rf_goto rv_s_goto
  cases rv_le 0 (Int.ofNat pc + off) with
  | false => exact rf_none
  | true => exact rf_same h
noncomputable def rf_dup (n : Nat) (F : rv_F) (L : List (Nat × rv_V)) (K : List rv_V) (X : List rv_C) (cn sn : Nat) : Option (List rv_M) := match K with
  | a :: r => bif Nat.beq a.1 1 then none else some [(n, F, L, a :: a :: r, X, cn, sn)]
  | [] => none
theorem rf_dup_ok (h : rf_I F) : rf_SP (rf_dup n F L K X cn sn) (rv_s_dup n (rf_toE F) L K X cn sn) := by
  unfold rf_dup rv_s_dup
  cases K with
  | nil => exact rf_none
  | cons a r =>
    dsimp only
    cases Nat.beq a.1 1 with
    | true => exact rf_none
    | false => exact rf_same h
noncomputable def rf_pop (n : Nat) (F : rv_F) (L : List (Nat × rv_V)) (K : List rv_V) (X : List rv_C) (cn sn : Nat) : Option (List rv_M) := match K with
  | a :: r => bif Nat.beq a.1 1 then none else some [(n, F, L, r, X, cn, sn)]
  | [] => none
theorem rf_pop_ok (h : rf_I F) : rf_SP (rf_pop n F L K X cn sn) (rv_s_pop n (rf_toE F) L K X cn sn) := by
  unfold rf_pop rv_s_pop
  cases K with
  | nil => exact rf_none
  | cons a r =>
    dsimp only
    cases Nat.beq a.1 1 with
    | true => exact rf_none
    | false => exact rf_same h
noncomputable def rf_get (FT : List rv_Fd) (i n : Nat) (F : rv_F) (L : List (Nat × rv_V)) (K : List rv_V) (X : List rv_C) (cn sn : Nat) : Option (List rv_M) := match K with
  | (2, q) :: r => match rv_fnd FT i, rv_nth X q with
    | some fd, some (.inl o) => match rv_nth o.2 fd.2.2.1 with
      | some a => bif Nat.beq o.1 fd.2.1 then some [(n, F, L, a :: r, X, cn, sn)] else none
      | none => none
    | _, _ => none
  | _ => none
theorem rf_get_ok (h : rf_I F) (FT : List rv_Fd) (i : Nat) : rf_SP (rf_get FT i n F L K X cn sn) (rv_s_get FT i n (rf_toE F) L K X cn sn) := by
  unfold rf_get
  split
  · rename_i q r
    rw [rv_nth_eq]
    show rf_SP _ (match rv_fnd FT i, X[q]? with
      | some fd, some (.inl o) => match (o.2)[fd.2.2.1]? with
        | some a => bif Nat.beq o.1 fd.2.1 then some [(n, rf_toE F, L, a :: r, X, cn, sn)] else none
        | none => none
      | _, _ => none)
    cases rv_fnd FT i with
    | none => exact rf_none
    | some fd =>
      cases X[q]? with
      | none => exact rf_none
      | some cd =>
        cases cd with
        | inr a => exact rf_none
        | inl o =>
          dsimp only
          rw [rv_nth_eq]
          cases (o.2)[fd.2.2.1]? with
          | none => exact rf_none
          | some a =>
            dsimp only
            cases Nat.beq o.1 fd.2.1 with
            | false => exact rf_none
            | true => exact rf_same h
  · exact rf_none
noncomputable def rf_in01 (F : rv_F) (i : Nat) : Bool := match rf_g F i with
  | some e => rv_le 0 e.1 && rv_le e.2.1 1
  | none => false
theorem rf_in01_eq (h : rf_I F) (i : Nat) : rf_in01 F i = rv_in01 (rf_toE F) i := by
  unfold rf_in01 rv_in01
  rw [rf_g_eq h]
  rfl
noncomputable def rf_fit (F : rv_F) (tc : Nat) (a : rv_V) : Bool := match tc with
  | 0 => Nat.beq a.1 0
  | 1 => Nat.beq a.1 0 && rf_in01 F a.2
  | 2 => Nat.beq a.1 1
  | 3 => Nat.beq a.1 2 || Nat.beq a.1 3
  | _ => false
theorem rf_fit_eq (h : rf_I F) (tc : Nat) (a : rv_V) : rf_fit F tc a = rv_fit (rf_toE F) tc a := by
  unfold rf_fit rv_fit
  rw [rf_in01_eq h]
  rfl
noncomputable def rf_setL {α : Type} (l : List α) : Nat → α → List α := List.rec (motive := fun _ => Nat → α → List α) (fun _ _ => []) (fun a t ih i e => Nat.rec (motive := fun _ => List α) (e :: t) (fun k _ => a :: ih k e) i) l
theorem rf_setL_eq {α : Type} : ∀ (l : List α) (i : Nat) (e : α), rf_setL l i e = l.set i e
  | [], _, _ => rfl
  | _ :: _, 0, _ => rfl
  | a :: l, i + 1, e => congrArg (a :: ·) (rf_setL_eq l i e)
noncomputable def rf_put (FT : List rv_Fd) (ini : Bool) (i n : Nat) (F : rv_F) (L : List (Nat × rv_V)) (K : List rv_V) (X : List rv_C) (cn sn : Nat) : Option (List rv_M) := match K with
  | a :: (2, q) :: r => match rv_fnd FT i, rv_nth X q with
    | some fd, some (.inl o) => bif Nat.beq o.1 fd.2.1 && (Nat.ble (fd.2.2.1 + 1) o.2.length && (rf_fit F fd.2.2.2.1 a && (!fd.2.2.2.2 || ini))) then rv_fp (rf_setL o.2 fd.2.2.1 a) (fun fs => rv_fp (rf_setL X q (.inl (fd.2.1, fs))) (fun X' => some [(n, F, L, r, X', cn, sn)])) else none
    | _, _ => none
  | _ => none
theorem rf_put_ok (h : rf_I F) (FT : List rv_Fd) (ini : Bool) (i : Nat) : rf_SP (rf_put FT ini i n F L K X cn sn) (rv_s_put FT ini i n (rf_toE F) L K X cn sn) := by
  unfold rf_put
  split
  · rename_i a q r
    rw [rv_nth_eq]
    show rf_SP _ (match rv_fnd FT i, X[q]? with
      | some fd, some (.inl o) => bif Nat.beq o.1 fd.2.1 && (Nat.ble (fd.2.2.1 + 1) o.2.length && (rv_fit (rf_toE F) fd.2.2.2.1 a && (!fd.2.2.2.2 || ini))) then some [(n, rf_toE F, L, r, X.set q (.inl (fd.2.1, o.2.set fd.2.2.1 a)), cn, sn)] else none
      | _, _ => none)
    cases rv_fnd FT i with
    | none => exact rf_none
    | some fd =>
      cases X[q]? with
      | none => exact rf_none
      | some cd =>
        cases cd with
        | inr a => exact rf_none
        | inl o =>
          dsimp only
          rw [rf_fit_eq h, rv_fp_eq, rv_fp_eq, rf_setL_eq, rf_setL_eq]
          cases (Nat.beq o.1 fd.2.1 && (Nat.ble (fd.2.2.1 + 1) o.2.length && (rv_fit (rf_toE F) fd.2.2.2.1 a && (!fd.2.2.2.2 || ini)))) with
          | false => exact rf_none
          | true => exact rf_same h
  · exact rf_none
noncomputable def rf_hull (F : rv_F) (b : Int × Int) (t : List (Nat × Nat)) : Option (Int × Int) := match t with
  | [] => some b
  | q :: r => match rf_g F q.2, rf_hull F b r with
    | some e, some h => some (rv_min e.1 h.1, rv_max e.2.1 h.2)
    | _, _ => none
theorem rf_hull_eq (h : rf_I F) (b : Int × Int) : ∀ t : List (Nat × Nat), rf_hull F b t = rv_hull (rf_toE F) b t
  | [] => rfl
  | q :: r => by
    unfold rf_hull rv_hull
    rw [rf_hull_eq h b r, rf_g_eq h]
    rfl
noncomputable def rf_rd (F : rv_F) (a : rv_Ar) (ei : rv_E) : Option (Nat ⊕ (Int × Int)) := bif rv_le ei.2.1 ei.1 then (match rv_tr a.2.2.2.2.1 ei.1.toNat with
    | some i => some (.inl i)
    | none => some (.inr (a.2.2.1, a.2.2.2.1))) else match rf_hull F (a.2.2.1, a.2.2.2.1) a.2.2.2.2.1 with
    | some h => some (.inr h)
    | none => none
theorem rf_rd_eq (h : rf_I F) (a : rv_Ar) (ei : rv_E) : rf_rd F a ei = rv_rd (rf_toE F) a ei := by
  unfold rf_rd rv_rd
  rw [rf_hull_eq h]
  rfl
noncomputable def rf_ald (ins : Instr) (n : Nat) (F : rv_F) (L : List (Nat × rv_V)) (K : List rv_V) (X : List rv_C) (cn sn : Nat) : Option (List rv_M) := match K with
  | (0, i) :: (2, q) :: r => match rf_g F i, rv_nth X q with
    | some ei, some (.inr a) => bif rv_idx ei a.2.1 && rv_ak ins a.1 then (match rf_rd F a ei with
      | some (.inl j) => rf_push F (0, 0, F.2.2.2.2.1, 0, [(5, [j, i, a.2.2.2.2.2])]) (fun F' => some [(n, F', L, ((bif Nat.beq a.1 2 then 1 else 0), j) :: r, X, cn, sn)])
      | some (.inr h) => rf_push F (h.1, h.2, F.2.2.2.2.1, 0, [(5, [F.2.2.2.2.1, i, a.2.2.2.2.2])]) (fun F' => some [(n, F', L, ((bif Nat.beq a.1 2 then 1 else 0), F.2.2.2.2.1) :: r, X, cn, sn)])
      | none => none) else none
    | _, _ => none
  | _ => none
theorem rf_ald_ok (h : rf_I F) (ins : Instr) : rf_SP (rf_ald ins n F L K X cn sn) (rv_s_ald ins n (rf_toE F) L K X cn sn) := by
  unfold rf_ald
  split
  · rename_i i q r
    rw [rv_nth_eq, rf_g_eq h]
    show rf_SP _ (match (rf_toE F)[i]?, X[q]? with
      | some ei, some (.inr a) => bif rv_idx ei a.2.1 && rv_ak ins a.1 then (match rv_rd (rf_toE F) a ei with
        | some (.inl j) => some [(n, rf_toE F ++ [(0, 0, (rf_toE F).length, 0, [(5, [j, i, a.2.2.2.2.2])])], L, ((bif Nat.beq a.1 2 then 1 else 0), j) :: r, X, cn, sn)]
        | some (.inr h) => some [(n, rf_toE F ++ [(h.1, h.2, (rf_toE F).length, 0, [(5, [(rf_toE F).length, i, a.2.2.2.2.2])])], L, ((bif Nat.beq a.1 2 then 1 else 0), (rf_toE F).length) :: r, X, cn, sn)]
        | none => none) else none
      | _, _ => none)
    rw [rf_len h]
    cases (rf_toE F)[i]? with
    | none => exact rf_none
    | some ei =>
      cases X[q]? with
      | none => exact rf_none
      | some cd =>
        cases cd with
        | inl o => exact rf_none
        | inr a =>
          dsimp only
          rw [rf_rd_eq h]
          cases (rv_idx ei a.2.1 && rv_ak ins a.1) with
          | false => exact rf_none
          | true =>
            simp only [cond_true]
            cases rv_rd (rf_toE F) a ei with
            | none => exact rf_none
            | some w =>
              cases w with
              | inl j => exact rf_more h _
              | inr z => exact rf_more h _
  · exact rf_none
noncomputable def rf_wr (F : rv_F) (a : rv_Ar) (ei ev : rv_E) (v n : Nat) : Option rv_Ar := bif rv_le ei.2.1 ei.1 then (bif (rv_tr a.2.2.2.2.1 ei.1.toNat).isNone && (rv_le a.2.2.1 ev.1 && (rv_le ev.2.1 a.2.2.2.1 && rv_le a.2.2.2.1 a.2.2.1)) then some (a.1, a.2.1, a.2.2.1, a.2.2.2.1, a.2.2.2.2.1, n) else some (a.1, a.2.1, a.2.2.1, a.2.2.2.1, (ei.1.toNat, v) :: a.2.2.2.2.1.filter (fun q => !(Nat.beq q.1 ei.1.toNat)), n)) else match rf_hull F (a.2.2.1, a.2.2.2.1) a.2.2.2.2.1 with
    | some h => some (a.1, a.2.1, rv_min h.1 ev.1, rv_max h.2 ev.2.1, [], n)
    | none => none
theorem rf_wr_eq (h : rf_I F) (a : rv_Ar) (ei ev : rv_E) (v n : Nat) : rf_wr F a ei ev v n = rv_wr (rf_toE F) a ei ev v n := by
  unfold rf_wr rv_wr
  rw [rf_hull_eq h]
  rfl
noncomputable def rf_ast (ins : Instr) (n : Nat) (F : rv_F) (L : List (Nat × rv_V)) (K : List rv_V) (X : List rv_C) (cn sn : Nat) : Option (List rv_M) := match K with
  | (k, v) :: (0, i) :: (2, q) :: r => match rf_g F i, rv_nth X q, rf_g F v with
    | some ei, some (.inr a), some ev => bif rv_idx ei a.2.1 && rv_sk ins a.1 k ev then (match rf_wr F a ei ev v F.2.2.2.2.1 with
      | some a' => rf_push F (0, 0, F.2.2.2.2.1, 0, [(6, [F.2.2.2.2.1, a.2.2.2.2.2, i, v])]) (fun F' => rv_fp (rf_setL X q (.inr a')) (fun X' => some [(n, F', L, r, X', cn, sn)]))
      | none => none) else none
    | _, _, _ => none
  | _ => none
theorem rf_ast_ok (h : rf_I F) (ins : Instr) : rf_SP (rf_ast ins n F L K X cn sn) (rv_s_ast ins n (rf_toE F) L K X cn sn) := by
  unfold rf_ast
  split
  · rename_i k v i q r
    rw [rv_nth_eq, rf_g_eq h, rf_g_eq h]
    show rf_SP _ (match (rf_toE F)[i]?, X[q]?, (rf_toE F)[v]? with
      | some ei, some (.inr a), some ev => bif rv_idx ei a.2.1 && rv_sk ins a.1 k ev then (match rv_wr (rf_toE F) a ei ev v (rf_toE F).length with
        | some a' => some [(n, rf_toE F ++ [(0, 0, (rf_toE F).length, 0, [(6, [(rf_toE F).length, a.2.2.2.2.2, i, v])])], L, r, X.set q (.inr a'), cn, sn)]
        | none => none) else none
      | _, _, _ => none)
    rw [rf_len h]
    cases (rf_toE F)[i]? with
    | none => exact rf_none
    | some ei =>
      cases X[q]? with
      | none => exact rf_none
      | some cd =>
        cases cd with
        | inl o => exact rf_none
        | inr a =>
          cases (rf_toE F)[v]? with
          | none => exact rf_none
          | some ev =>
            dsimp only
            rw [rf_wr_eq h]
            cases (rv_idx ei a.2.1 && rv_sk ins a.1 k ev) with
            | false => exact rf_none
            | true =>
              simp only [cond_true]
              cases rv_wr (rf_toE F) a ei ev v F.2.2.2.2.1 with
              | none => exact rf_none
              | some a' =>
                simp only [rv_fp_eq, rf_setL_eq]
                exact rf_more h _
  · exact rf_none
noncomputable def rf_step (T : rv_T) (P : rv_P) (i : Instr) (pc : Nat) (F : rv_F) (L : List (Nat × rv_V)) (K : List rv_V) (X : List rv_C) (cn sn : Nat) : Option (List rv_M) := match i with
  | .iconst n => rf_k (Int32.ofInt n).toInt (pc + 1) F L K X cn sn
  | .bipush n => rf_k ((Int8.ofInt n).toInt32).toInt (pc + 2) F L K X cn sn
  | .sipush n => rf_k ((Int16.ofInt n).toInt32).toInt (pc + 3) F L K X cn sn
  | .iload_n k => rf_ld 0 k (pc + 1) F L K X cn sn
  | .iload k => rf_ld 0 k (pc + 2) F L K X cn sn
  | .lload_n k => rf_ld 1 k (pc + 1) F L K X cn sn
  | .lload k => rf_ld 1 k (pc + 2) F L K X cn sn
  | .aload_n k => rf_lda k (pc + 1) F L K X cn sn
  | .aload k => rf_lda k (pc + 2) F L K X cn sn
  | .istore_n k => rf_st 0 k P.2.1 (pc + 1) F L K X cn sn
  | .istore k => rf_st 0 k P.2.1 (pc + 2) F L K X cn sn
  | .iinc k z => rf_iinc k z P.2.1 (pc + 3) F L K X cn sn
  | .iadd => rf_bin 0 (pc + 1) F L K X cn sn
  | .isub => rf_bin 1 (pc + 1) F L K X cn sn
  | .imul => rf_bin 2 (pc + 1) F L K X cn sn
  | .idiv => rf_bin 3 (pc + 1) F L K X cn sn
  | .irem => rf_bin 4 (pc + 1) F L K X cn sn
  | .iand => rf_bin 5 (pc + 1) F L K X cn sn
  | .ior => rf_bin 6 (pc + 1) F L K X cn sn
  | .ixor => rf_bin 7 (pc + 1) F L K X cn sn
  | .ishl => rf_bin 8 (pc + 1) F L K X cn sn
  | .ishr => rf_bin 9 (pc + 1) F L K X cn sn
  | .iushr => rf_bin 10 (pc + 1) F L K X cn sn
  | .i2b => rf_un 0 (pc + 1) F L K X cn sn
  | .i2c => rf_un 1 (pc + 1) F L K X cn sn
  | .i2s => rf_un 2 (pc + 1) F L K X cn sn
  | .ineg => rf_un 3 (pc + 1) F L K X cn sn
  | .dup => rf_dup (pc + 1) F L K X cn sn
  | .pop => rf_pop (pc + 1) F L K X cn sn
  | .if_icmp cd off => rf_icmp (rv_has P.1 pc) cd off pc F L K X cn sn
  | .ifCond cd off => rf_if (rv_has P.1 pc) cd off pc F L K X cn sn
  | .goto off => rf_goto off pc F L K X cn sn
  | .getfield j => bif rs_4 K then none else rf_get T.1 j (pc + 3) F L K X cn sn
  | .putfield j => rf_put T.1 P.2.2.2.2.2.2 j (pc + 3) F L K X cn sn
  | .iaload => rf_ald .iaload (pc + 1) F L K X cn sn
  | .laload => rf_ald .laload (pc + 1) F L K X cn sn
  | .baload => bif rs_04 K then none else rf_ald .baload (pc + 1) F L K X cn sn
  | .iastore => rf_ast .iastore (pc + 1) F L K X cn sn
  | .bastore => rf_ast .bastore (pc + 1) F L K X cn sn
  | .lastore => rf_ast .lastore (pc + 1) F L K X cn sn
  | _ => none
theorem rf_step_ok (h : rf_I F) {T : rv_T} {P : rv_P} {i : Instr} : rf_SP (rf_step T P i pc F L K X cn sn) (rv_step T P i pc (rf_toE F) L K X cn sn) := by
  unfold rf_step
  split
  · exact rf_k_ok h _
  · exact rf_k_ok h _
  · exact rf_k_ok h _
  · exact rf_ld_ok h _ _
  · exact rf_ld_ok h _ _
  · exact rf_ld_ok h _ _
  · exact rf_ld_ok h _ _
  · exact rf_lda_ok h _
  · exact rf_lda_ok h _
  · exact rf_st_ok h _ _ _
  · exact rf_st_ok h _ _ _
  · exact rf_iinc_ok h _ _ _
  · exact rf_bin_ok h _
  · exact rf_bin_ok h _
  · exact rf_bin_ok h _
  · exact rf_bin_ok h _
  · exact rf_bin_ok h _
  · exact rf_bin_ok h _
  · exact rf_bin_ok h _
  · exact rf_bin_ok h _
  · exact rf_bin_ok h _
  · exact rf_bin_ok h _
  · exact rf_bin_ok h _
  · exact rf_un_ok h _
  · exact rf_un_ok h _
  · exact rf_un_ok h _
  · exact rf_un_ok h _
  · exact rf_dup_ok h
  · exact rf_pop_ok h
  · exact rf_icmp_ok h _ _ _
  · exact rf_if_ok h _ _ _
  · exact rf_goto_ok h _
  · rename_i j
    show rf_SP _ (bif rs_4 K then rs_s_get T.2.2.2.2.2.2.2 j (pc + 3) (rf_toE F) L K X cn sn else rv_s_get T.1 j (pc + 3) (rf_toE F) L K X cn sn)
    cases rs_4 K with
    | true => exact rf_none
    | false => exact rf_get_ok h _ _
  · exact rf_put_ok h _ _ _
  · exact rf_ald_ok h _
  · exact rf_ald_ok h _
  · show rf_SP _ (bif rs_04 K then rs_s_bald (pc + 1) (rf_toE F) L K X cn sn else rv_s_ald .baload (pc + 1) (rf_toE F) L K X cn sn)
    cases rs_04 K with
    | true => exact rf_none
    | false => exact rf_ald_ok h _
  · exact rf_ast_ok h _
  · exact rf_ast_ok h _
  · exact rf_ast_ok h _
  · exact rf_none
end
