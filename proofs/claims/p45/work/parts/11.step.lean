/-! one step as a function, and that it is sound -/
abbrev rv_N := Nat × List rv_E × List (Nat × rv_V) × List rv_V × List rv_C × Nat × Nat
/-- texts: constants, the static that says how texts are held, fields of a text -/
abbrev rv_Xt := List (Nat × Nat) × List Nat × List (Nat × Nat)
abbrev rv_T := List rv_Fd × List rv_Nd × List (Nat × Nat) × List Nat × List Nat × List (Nat × Int) × List (Nat × Int) × rv_Xt
def rs_TOk (own : String) (Ts : List Jvm.Cond) (x : rv_Xt) : Prop := (∀ q ∈ x.1, own = "TalkBridge$Tape" ∧ ((q.1 = 67 ∧ q.2 = 0) ∨ (q.1 = 60 ∧ q.2 = 2))) ∧ (∀ i ∈ x.2.1, Jvm.Cond.fieldLink own i "java/lang/String" "COMPACT_STRINGS" "Z" ∈ Ts) ∧ (∀ q ∈ x.2.2, (q.2 = 0 ∧ Jvm.Cond.fieldLink own q.1 "java/lang/String" "value" "[B" ∈ Ts) ∨ (q.2 = 1 ∧ Jvm.Cond.fieldLink own q.1 "java/lang/String" "coder" "B" ∈ Ts))
abbrev rv_P := List Nat × Nat × Nat × Nat × Nat × Nat × Bool
def rv_TOk (own : String) (Ts : List Jvm.Cond) (cl : List vw_C) (T : rv_T) : Prop := (∀ q ∈ T.1, rv_F1 own Ts cl q) ∧ (∀ q ∈ T.2.1, rv_N1 own Ts cl q) ∧ (∀ q ∈ T.2.2.1, rv_M1 own Ts q) ∧ (∀ q ∈ T.2.2.2.1, rv_Y1 own Ts q) ∧ (∀ q ∈ T.2.2.2.2.1, rv_O1 own Ts q) ∧ (∀ q ∈ T.2.2.2.2.2.1, Jvm.Cond.constant own q.1 (Int32.ofInt q.2) ∈ Ts) ∧ (∀ q ∈ T.2.2.2.2.2.2.1, Jvm.Cond.constantLong own q.1 (Int64.ofInt q.2) ∈ Ts) ∧ Jvm.Cond.arrayClass .byte ∈ Ts ∧ Jvm.Cond.arrayClass .int ∈ Ts ∧ Jvm.Cond.arrayClass .long ∈ Ts ∧ Jvm.Cond.arrayClass .boolean ∈ Ts ∧ rs_TOk own Ts T.2.2.2.2.2.2.2
def rv_POk (R : Room) (meth : Method) (nL : Nat) (P : rv_P) : Prop := P.2.1 = nL ∧ R.frames = P.2.2.1 ∧ R.locals = P.2.2.2.1 ∧ R.cells = P.2.2.2.2.1 ∧ R.slots = P.2.2.2.2.2.1 ∧ (P.2.2.2.2.2.2 = true → meth.name = "<init>")
def rv_fnd {α : Type} (l : List (Nat × α)) (i : Nat) : Option (Nat × α) := match l with
  | [] => none
  | q :: r => bif Nat.beq q.1 i then some q else rv_fnd r i
theorem rv_fnd_ok {α : Type} {l : List (Nat × α)} {i : Nat} {q : Nat × α} (h : rv_fnd l i = some q) : q ∈ l ∧ q.1 = i := by
  induction l with
  | nil => cases h
  | cons z r ih =>
    unfold rv_fnd at h
    cases hz : Nat.beq z.1 i with
    | true =>
      simp only [hz, cond_true] at h
      have h := Option.some.inj h
      subst h
      exact ⟨List.mem_cons_self, Nat.eq_of_beq_eq_true hz⟩
    | false =>
      simp only [hz, cond_false] at h
      obtain ⟨h1, h2⟩ := ih h
      exact ⟨List.mem_cons_of_mem _ h1, h2⟩
def rv_has (l : List Nat) (i : Nat) : Bool := match l with
  | [] => false
  | q :: r => bif Nat.beq q i then true else rv_has r i
theorem rv_has_ok {l : List Nat} {i : Nat} (h : rv_has l i = true) : i ∈ l := by
  induction l with
  | nil => cases h
  | cons z r ih =>
    unfold rv_has at h
    cases hz : Nat.beq z i with
    | true => rw [← Nat.eq_of_beq_eq_true hz]; exact List.mem_cons_self
    | false => simp only [hz, cond_false] at h; exact List.mem_cons_of_mem _ (ih h)
def rv_s_k (x : Int32) (n : Nat) (E : List rv_E) (L : List (Nat × rv_V)) (K : List rv_V) (X : List rv_C) (cn sn : Nat) : Option (List rv_N) := some [(n, E ++ [(x.toInt, x.toInt, E.length, 0, [])], L, (0, E.length) :: K, X, cn, sn)]
def rv_s_kl (x : Int64) (n : Nat) (E : List rv_E) (L : List (Nat × rv_V)) (K : List rv_V) (X : List rv_C) (cn sn : Nat) : Option (List rv_N) := some [(n, E ++ [(x.toInt, x.toInt, E.length, 0, [])], L, (1, E.length) :: K, X, cn, sn)]
def rv_s_ld (k i n : Nat) (E : List rv_E) (L : List (Nat × rv_V)) (K : List rv_V) (X : List rv_C) (cn sn : Nat) : Option (List rv_N) := match rv_lk L i with
  | some a => bif Nat.beq a.1 k then some [(n, E, L, a :: K, X, cn, sn)] else none
  | none => none
def rv_s_st (k i nL n : Nat) (E : List rv_E) (L : List (Nat × rv_V)) (K : List rv_V) (X : List rv_C) (cn sn : Nat) : Option (List rv_N) := match K with
  | a :: r => bif Nat.beq a.1 k && Nat.ble (i + 1) nL then some [(n, E, rv_st L i a, r, X, cn, sn)] else none
  | [] => none
def rv_s_st2 (i nL n : Nat) (E : List rv_E) (L : List (Nat × rv_V)) (K : List rv_V) (X : List rv_C) (cn sn : Nat) : Option (List rv_N) := match K with
  | a :: r => bif Nat.beq a.1 1 && Nat.ble (i + 2) nL then some [(n, E, rv_st2 L i a, r, X, cn, sn)] else none
  | [] => none
def rv_s_bin (op n : Nat) (E : List rv_E) (L : List (Nat × rv_V)) (K : List rv_V) (X : List rv_C) (cn sn : Nat) : Option (List rv_N) := match K with
  | (0, y) :: (0, x) :: r => match E[x]?, E[y]? with
    | some a, some b => bif rv_i32 a && (rv_i32 b && rv_dv op b) then some [(n, E ++ [rv_ent op E.length [(rv_tag op, [E.length, x, y])] a b], L, (0, E.length) :: r, X, cn, sn)] else none
    | _, _ => none
  | _ => none
def rv_s_lbin (op n : Nat) (E : List rv_E) (L : List (Nat × rv_V)) (K : List rv_V) (X : List rv_C) (cn sn : Nat) : Option (List rv_N) := match K with
  | (1, y) :: (1, x) :: r => match E[x]?, E[y]? with
    | some a, some b => bif rv_i64 a && (rv_i64 b && rv_dv op b) then some [(n, E ++ [((rv_lalu op a b).1, (rv_lalu op a b).2, E.length, 0, [])], L, (1, E.length) :: r, X, cn, sn)] else none
    | _, _ => none
  | _ => none
def rv_s_lshl (n : Nat) (E : List rv_E) (L : List (Nat × rv_V)) (K : List rv_V) (X : List rv_C) (cn sn : Nat) : Option (List rv_N) := match K with
  | (0, _) :: (1, _) :: r => some [(n, E ++ [(rv_lo64, rv_hi64, E.length, 0, [])], L, (1, E.length) :: r, X, cn, sn)]
  | _ => none
def rv_s_un (op n : Nat) (E : List rv_E) (L : List (Nat × rv_V)) (K : List rv_V) (X : List rv_C) (cn sn : Nat) : Option (List rv_N) := match K with
  | (0, x) :: r => match E[x]? with
    | some a => bif rv_i32 a then some [(n, E ++ [((rv_unb op a).1, (rv_unb op a).2, E.length, 0, [])], L, (0, E.length) :: r, X, cn, sn)] else none
    | none => none
  | _ => none
def rv_s_i2l (n : Nat) (E : List rv_E) (L : List (Nat × rv_V)) (K : List rv_V) (X : List rv_C) (cn sn : Nat) : Option (List rv_N) := match K with
  | (0, x) :: r => match E[x]? with
    | some a => bif rv_i32 a then some [(n, E ++ [(a.1, a.2.1, E.length, 0, [])], L, (1, E.length) :: r, X, cn, sn)] else none
    | none => none
  | _ => none
def rv_s_l2i (n : Nat) (E : List rv_E) (L : List (Nat × rv_V)) (K : List rv_V) (X : List rv_C) (cn sn : Nat) : Option (List rv_N) := match K with
  | (1, x) :: r => match E[x]? with
    | some a => bif rv_i64 a then some [(n, E ++ [((rv_l2i a).1, (rv_l2i a).2, E.length, 0, [])], L, (0, E.length) :: r, X, cn, sn)] else none
    | none => none
  | _ => none
def rv_s_lcmp (n : Nat) (E : List rv_E) (L : List (Nat × rv_V)) (K : List rv_V) (X : List rv_C) (cn sn : Nat) : Option (List rv_N) := match K with
  | (1, y) :: (1, x) :: r => match E[x]?, E[y]? with
    | some a, some b => bif rv_i64 a && rv_i64 b then some [(n, E ++ [((rv_lc a b).1, (rv_lc a b).2, E.length, 0, [(7, [E.length, x, y])])], L, (0, E.length) :: r, X, cn, sn)] else none
    | _, _ => none
  | _ => none
def rv_s_iinc (i : Nat) (z : Int) (nL n : Nat) (E : List rv_E) (L : List (Nat × rv_V)) (K : List rv_V) (X : List rv_C) (cn sn : Nat) : Option (List rv_N) := match rv_lk L i with
  | some (0, x) => match E[x]? with
    | some a => bif rv_i32 a && (Nat.ble (i + 1) nL && (rv_le rv_lo z && rv_le z rv_hi)) then some [(n, E ++ [rv_ent 0 E.length [] a (z, z, E.length, 0, [])], rv_st L i (0, E.length), K, X, cn, sn)] else none
    | none => none
  | _ => none
def rv_mk (n : Nat) (L : List (Nat × rv_V)) (r : List rv_V) (X : List rv_C) (cn sn : Nat) (Es : List (List rv_E)) : List rv_N := Es.map (fun E2 => (n, E2, L, r, X, cn, sn))
def rv_s_icmp (sp : Bool) (cd : Jvm.ClassFile.Cond) (off : Int) (pc : Nat) (E : List rv_E) (L : List (Nat × rv_V)) (K : List rv_V) (X : List rv_C) (cn sn : Nat) : Option (List rv_N) := match K with
  | (0, y) :: (0, x) :: r => match E[x]?, E[y]? with
    | some a, some b => bif rv_i32 a && (rv_i32 b && rv_le 0 (Int.ofNat pc + off)) then some (rv_mk (rv_tg pc off) L r X cn sn (rv_cT sp cd (E ++ [(0, 0, E.length, 0, [rv_cf cd x y])]) x y) ++ rv_mk (pc + 3) L r X cn sn (rv_cT sp (rv_ng cd) (E ++ [(0, 0, E.length, 0, [rv_cf (rv_ng cd) x y])]) x y)) else none
    | _, _ => none
  | _ => none
def rv_s_if (sp : Bool) (cd : Jvm.ClassFile.Cond) (off : Int) (pc : Nat) (E : List rv_E) (L : List (Nat × rv_V)) (K : List rv_V) (X : List rv_C) (cn sn : Nat) : Option (List rv_N) := match K with
  | (0, x) :: r => match E[x]? with
    | some a => bif rv_i32 a && rv_le 0 (Int.ofNat pc + off) then some (rv_mk (rv_tg pc off) L r X cn sn (rv_cE cd x a (rv_cT sp cd (E ++ [(0, 0, E.length, 0, [rv_cf cd x E.length])]) x E.length)) ++ rv_mk (pc + 3) L r X cn sn (rv_cE (rv_ng cd) x a (rv_cT sp (rv_ng cd) (E ++ [(0, 0, E.length, 0, [rv_cf (rv_ng cd) x E.length])]) x E.length))) else none
    | none => none
  | _ => none
def rv_s_goto (off : Int) (pc : Nat) (E : List rv_E) (L : List (Nat × rv_V)) (K : List rv_V) (X : List rv_C) (cn sn : Nat) : Option (List rv_N) := bif rv_le 0 (Int.ofNat pc + off) then some [(rv_tg pc off, E, L, K, X, cn, sn)] else none
def rv_s_tsw (dflt lo hi : Int) (offs : List Int) (pc : Nat) (E : List rv_E) (L : List (Nat × rv_V)) (K : List rv_V) (X : List rv_C) (cn sn : Nat) : Option (List rv_N) := match K with
  | (0, x) :: r => match E[x]?, rv_ts pc E x lo offs with
    | some a, some t => bif rv_i32 a && (rv_le (hi - lo + 1) (Int.ofNat offs.length) && rv_le 0 (Int.ofNat pc + dflt)) then some (t.map (fun q => (q.1, q.2, L, r, X, cn, sn)) ++ rv_mk (rv_tg pc dflt) L r X cn sn ((rv_cut E x rv_lo (lo - 1)).toList ++ (rv_cut E x (hi + 1) rv_hi).toList)) else none
    | _, _ => none
  | _ => none
def rv_s_lsw (dflt : Int) (ps : List (Int × Int)) (pc : Nat) (E : List rv_E) (L : List (Nat × rv_V)) (K : List rv_V) (X : List rv_C) (cn sn : Nat) : Option (List rv_N) := match K with
  | (0, x) :: r => match E[x]?, rv_lsw pc E x dflt ps with
    | some a, some t => bif rv_i32 a && (ps.zip (ps.drop 1)).all (fun (a, next) => a.1 < next.1) then some (t.map (fun q => (q.1, q.2, L, r, X, cn, sn))) else none
    | _, _ => none
  | _ => none
def rv_s_dup (n : Nat) (E : List rv_E) (L : List (Nat × rv_V)) (K : List rv_V) (X : List rv_C) (cn sn : Nat) : Option (List rv_N) := match K with
  | a :: r => bif Nat.beq a.1 1 then none else some [(n, E, L, a :: a :: r, X, cn, sn)]
  | [] => none
def rv_s_dup2 (n : Nat) (E : List rv_E) (L : List (Nat × rv_V)) (K : List rv_V) (X : List rv_C) (cn sn : Nat) : Option (List rv_N) := match K with
  | a :: b :: r => bif Nat.beq a.1 1 || Nat.beq b.1 1 then none else some [(n, E, L, a :: b :: a :: b :: r, X, cn, sn)]
  | _ => none
def rv_s_pop (n : Nat) (E : List rv_E) (L : List (Nat × rv_V)) (K : List rv_V) (X : List rv_C) (cn sn : Nat) : Option (List rv_N) := match K with
  | a :: r => bif Nat.beq a.1 1 then none else some [(n, E, L, r, X, cn, sn)]
  | [] => none
def rv_s_get (FT : List rv_Fd) (i n : Nat) (E : List rv_E) (L : List (Nat × rv_V)) (K : List rv_V) (X : List rv_C) (cn sn : Nat) : Option (List rv_N) := match K with
  | (2, q) :: r => match rv_fnd FT i, X[q]? with
    | some fd, some (.inl o) => match (o.2)[fd.2.2.1]? with
      | some a => bif Nat.beq o.1 fd.2.1 then some [(n, E, L, a :: r, X, cn, sn)] else none
      | none => none
    | _, _ => none
  | _ => none
def rv_s_put (FT : List rv_Fd) (ini : Bool) (i n : Nat) (E : List rv_E) (L : List (Nat × rv_V)) (K : List rv_V) (X : List rv_C) (cn sn : Nat) : Option (List rv_N) := match K with
  | a :: (2, q) :: r => match rv_fnd FT i, X[q]? with
    | some fd, some (.inl o) => bif Nat.beq o.1 fd.2.1 && (Nat.ble (fd.2.2.1 + 1) o.2.length && (rv_fit E fd.2.2.2.1 a && (!fd.2.2.2.2 || ini))) then some [(n, E, L, r, X.set q (.inl (fd.2.1, o.2.set fd.2.2.1 a)), cn, sn)] else none
    | _, _ => none
  | _ => none
def rv_s_ald (ins : Instr) (n : Nat) (E : List rv_E) (L : List (Nat × rv_V)) (K : List rv_V) (X : List rv_C) (cn sn : Nat) : Option (List rv_N) := match K with
  | (0, i) :: (2, q) :: r => match E[i]?, X[q]? with
    | some ei, some (.inr a) => bif rv_idx ei a.2.1 && rv_ak ins a.1 then (match rv_rd E a ei with
      | some (.inl j) => some [(n, E ++ [(0, 0, E.length, 0, [(5, [j, i, a.2.2.2.2.2])])], L, ((bif Nat.beq a.1 2 then 1 else 0), j) :: r, X, cn, sn)]
      | some (.inr h) => some [(n, E ++ [(h.1, h.2, E.length, 0, [(5, [E.length, i, a.2.2.2.2.2])])], L, ((bif Nat.beq a.1 2 then 1 else 0), E.length) :: r, X, cn, sn)]
      | none => none) else none
    | _, _ => none
  | _ => none
def rv_s_ast (ins : Instr) (n : Nat) (E : List rv_E) (L : List (Nat × rv_V)) (K : List rv_V) (X : List rv_C) (cn sn : Nat) : Option (List rv_N) := match K with
  | (k, v) :: (0, i) :: (2, q) :: r => match E[i]?, X[q]?, E[v]? with
    | some ei, some (.inr a), some ev => bif rv_idx ei a.2.1 && rv_sk ins a.1 k ev then (match rv_wr E a ei ev v E.length with
      | some a' => some [(n, E ++ [(0, 0, E.length, 0, [(6, [E.length, a.2.2.2.2.2, i, v])])], L, r, X.set q (.inr a'), cn, sn)]
      | none => none) else none
    | _, _, _ => none
  | _ => none
def rv_s_alen (n : Nat) (E : List rv_E) (L : List (Nat × rv_V)) (K : List rv_V) (X : List rv_C) (cn sn : Nat) : Option (List rv_N) := match K with
  | (2, q) :: r => match X[q]? with
    | some (.inr a) => bif Nat.ble a.1 3 && Nat.ble a.2.1 2147483647 then some [(n, E ++ [(Int.ofNat a.2.1, Int.ofNat a.2.1, E.length, 0, [])], L, (0, E.length) :: r, X, cn, sn)] else none
    | _ => none
  | _ => none
def rv_s_newa (at0 : ArrayType) (ce sl n : Nat) (E : List rv_E) (L : List (Nat × rv_V)) (K : List rv_V) (X : List rv_C) (cn sn : Nat) : Option (List rv_N) := match K with
  | (0, i) :: r => match E[i]? with
    | some (Int.ofNat z, Int.ofNat z', _) => bif Nat.beq z z' && (Nat.ble (rv_at at0) 3 && (Nat.ble z 60000000 && (Nat.ble (cn + 1) ce && Nat.ble (sn + z) sl))) then some [(n, E ++ [(0, 0, E.length, 0, [])], L, (2, X.length) :: r, X ++ [.inr (rv_at at0, z, 0, 0, [], E.length)], cn + 1, sn + z)] else none
    | _ => none
  | _ => none
def rv_s_new (NT : List rv_Nd) (i ce sl n : Nat) (E : List rv_E) (L : List (Nat × rv_V)) (K : List rv_V) (X : List rv_C) (cn sn : Nat) : Option (List rv_N) := match rv_fnd NT i with
  | some nd => bif Nat.ble (cn + 1) ce && Nat.ble (sn + nd.2.2.length) sl then some [(n, E ++ [(0, 0, E.length, 0, [])], L, (2, X.length) :: K, X ++ [.inl (nd.2.1, nd.2.2.map (rv_df E.length))], cn + 1, sn + nd.2.2.length)] else none
  | none => none
def rv_s_mm (op fr lo ce sl n : Nat) (E : List rv_E) (L : List (Nat × rv_V)) (K : List rv_V) (X : List rv_C) (cn sn : Nat) : Option (List rv_N) := match K with
  | (0, y) :: (0, x) :: r => match E[x]?, E[y]? with
    | some a, some b => bif rv_i32 a && (rv_i32 b && (Nat.ble 1 fr && (Nat.ble (rv_catS r + 13) lo && (Nat.ble cn ce && Nat.ble sn sl)))) then some [(n, E ++ [rv_ent op E.length [(rv_tag op, [E.length, x, y])] a b], L, (0, E.length) :: r, X, cn, sn)] else none
    | _, _ => none
  | _ => none
def rv_s_copy (fr lo n : Nat) (E : List rv_E) (L : List (Nat × rv_V)) (K : List rv_V) (X : List rv_C) (cn sn : Nat) : Option (List rv_N) := match K with
  | (0, z) :: (0, dp) :: (2, q1) :: (0, sp) :: (2, q0) :: r => match X[q0]?, X[q1]? with
    | some (.inr a0), some (.inr a1) => match E[z]?, E[dp]?, E[sp]? with
      | some en, some ed, some es => match rv_hull E (a0.2.2.1, a0.2.2.2.1) a0.2.2.2.2.1, rv_hull E (a1.2.2.1, a1.2.2.2.1) a1.2.2.2.2.1 with
        | some h0, some h1 => bif Nat.beq a0.1 1 && (Nat.beq a1.1 1 && (rv_cpb en es a0.2.1 && (rv_cpb en ed a1.2.1 && (Nat.ble 1 fr && Nat.ble (rv_catS r + 18) lo)))) then some [(n, E ++ [(0, 0, E.length, 0, [])], L, r, X.set q1 (.inr (1, a1.2.1, rv_min h0.1 h1.1, rv_max h0.2 h1.2, [], E.length)), cn, sn)] else none
        | _, _ => none
      | _, _, _ => none
    | _, _ => none
  | _ => none
def rs_s_ldc (xt : rv_Xt) (i n : Nat) (E : List rv_E) (L : List (Nat × rv_V)) (K : List rv_V) (X : List rv_C) (cn sn : Nat) : Option (List rv_N) := match rv_fnd xt.1 i with
  | some q => some [(n, E, L, (4, q.2) :: K, X, cn, sn)]
  | none => none
def rs_s_gets (xt : rv_Xt) (i n : Nat) (E : List rv_E) (L : List (Nat × rv_V)) (K : List rv_V) (X : List rv_C) (cn sn : Nat) : Option (List rv_N) := bif rv_has xt.2.1 i then some [(n, E ++ [(1, 1, E.length, 0, [])], L, (0, E.length) :: K, X, cn, sn)] else none
def rs_s_get (xt : rv_Xt) (i n : Nat) (E : List rv_E) (L : List (Nat × rv_V)) (K : List rv_V) (X : List rv_C) (cn sn : Nat) : Option (List rv_N) := match K with
  | (4, j) :: r => bif Nat.beq j 0 || Nat.beq j 2 then (match rv_fnd xt.2.2 i with
    | some q => bif Nat.beq q.2 0 then some [(n, E, L, (4, j + 1) :: r, X, cn, sn)] else some [(n, E ++ [(0, 0, E.length, 0, [])], L, (0, E.length) :: r, X, cn, sn)]
    | none => none) else none
  | _ => none
def rs_ln (j : Nat) : Nat := bif Nat.beq j 1 then 192 else 11
def rs_s_alen (n : Nat) (E : List rv_E) (L : List (Nat × rv_V)) (K : List rv_V) (X : List rv_C) (cn sn : Nat) : Option (List rv_N) := match K with
  | (4, j) :: r => bif Nat.beq j 1 || Nat.beq j 3 then some [(n, E ++ [(Int.ofNat (rs_ln j), Int.ofNat (rs_ln j), E.length, 0, [])], L, (0, E.length) :: r, X, cn, sn)] else none
  | _ => none
def rs_s_bald (n : Nat) (E : List rv_E) (L : List (Nat × rv_V)) (K : List rv_V) (X : List rv_C) (cn sn : Nat) : Option (List rv_N) := match K with
  | (0, i) :: (4, j) :: r => match E[i]? with
    | some ei => bif rv_idx ei (rs_ln j) && (Nat.beq j 1 || Nat.beq j 3) then some [(n, E ++ [(Int.negSucc 127, Int.ofNat 127, E.length, 0, [])], L, (0, E.length) :: r, X, cn, sn)] else none
    | none => none
  | _ => none
def rs_4 (K : List rv_V) : Bool := match K with
  | (4, _) :: _ => true
  | _ => false
def rs_04 (K : List rv_V) : Bool := match K with
  | (0, _) :: (4, _) :: _ => true
  | _ => false
def rs_s_ld (i n : Nat) (E : List rv_E) (L : List (Nat × rv_V)) (K : List rv_V) (X : List rv_C) (cn sn : Nat) : Option (List rv_N) := match rv_lk L i with
  | some (4, j) => rv_s_ld 4 i n E L K X cn sn
  | _ => rv_s_ld 2 i n E L K X cn sn
def rv_s_obj (fr lo n : Nat) (E : List rv_E) (L : List (Nat × rv_V)) (K : List rv_V) (X : List rv_C) (cn sn : Nat) : Option (List rv_N) := match K with
  | (2, _) :: r => bif Nat.ble 1 fr && Nat.ble (rv_catS r + 12) lo then some [(n, E, L, r, X, cn, sn)] else none
  | _ => none
