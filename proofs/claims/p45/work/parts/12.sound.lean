def rv_ln (i : Instr) (len : Nat) : Bool := match i with
  | .tableswitch _ _ _ _ => true
  | .lookupswitch _ _ => true
  | .bipush _ => Nat.beq len 2
  | .iload _ => Nat.beq len 2
  | .lload _ => Nat.beq len 2
  | .aload _ => Nat.beq len 2
  | .istore _ => Nat.beq len 2
  | .lstore _ => Nat.beq len 2
  | .astore _ => Nat.beq len 2
  | .ldc _ => Nat.beq len 2
  | .newarray _ => Nat.beq len 2
  | .sipush _ => Nat.beq len 3
  | .iinc _ _ => Nat.beq len 3
  | .if_icmp _ _ => Nat.beq len 3
  | .ifCond _ _ => Nat.beq len 3
  | .goto _ => Nat.beq len 3
  | .getfield _ => Nat.beq len 3
  | .getstatic _ => Nat.beq len 3
  | .putfield _ => Nat.beq len 3
  | .new _ => Nat.beq len 3
  | .ldc_w _ => Nat.beq len 3
  | .ldc2_w _ => Nat.beq len 3
  | .invokestatic _ => Nat.beq len 3
  | .invokespecial _ => Nat.beq len 3
  | .invokevirtual _ => Nat.beq len 3
  | _ => Nat.beq len 1
def rv_step (T : rv_T) (P : rv_P) (i : Instr) (pc : Nat) (E : List rv_E) (L : List (Nat × rv_V)) (K : List rv_V) (X : List rv_C) (cn sn : Nat) : Option (List rv_N) := match i with
  | .iconst n => rv_s_k (Int32.ofInt n) (pc + 1) E L K X cn sn
  | .bipush n => rv_s_k (Int8.ofInt n).toInt32 (pc + 2) E L K X cn sn
  | .sipush n => rv_s_k (Int16.ofInt n).toInt32 (pc + 3) E L K X cn sn
  | .lconst n => rv_s_kl (Int64.ofNat (n : Nat)) (pc + 1) E L K X cn sn
  | .ldc j => match rv_fnd T.2.2.2.2.2.1 j with
    | some q => rv_s_k (Int32.ofInt q.2) (pc + 2) E L K X cn sn
    | none => rs_s_ldc T.2.2.2.2.2.2.2 j (pc + 2) E L K X cn sn
  | .getstatic j => rs_s_gets T.2.2.2.2.2.2.2 j (pc + 3) E L K X cn sn
  | .ldc_w j => match rv_fnd T.2.2.2.2.2.1 j with
    | some q => rv_s_k (Int32.ofInt q.2) (pc + 3) E L K X cn sn
    | none => none
  | .ldc2_w j => match rv_fnd T.2.2.2.2.2.2.1 j with
    | some q => rv_s_kl (Int64.ofInt q.2) (pc + 3) E L K X cn sn
    | none => none
  | .iload_n k => rv_s_ld 0 k (pc + 1) E L K X cn sn
  | .iload k => rv_s_ld 0 k (pc + 2) E L K X cn sn
  | .lload_n k => rv_s_ld 1 k (pc + 1) E L K X cn sn
  | .lload k => rv_s_ld 1 k (pc + 2) E L K X cn sn
  | .aload_n k => rs_s_ld k (pc + 1) E L K X cn sn
  | .aload k => rs_s_ld k (pc + 2) E L K X cn sn
  | .istore_n k => rv_s_st 0 k P.2.1 (pc + 1) E L K X cn sn
  | .istore k => rv_s_st 0 k P.2.1 (pc + 2) E L K X cn sn
  | .lstore_n k => rv_s_st2 k P.2.1 (pc + 1) E L K X cn sn
  | .lstore k => rv_s_st2 k P.2.1 (pc + 2) E L K X cn sn
  | .astore_n k => rv_s_st 2 k P.2.1 (pc + 1) E L K X cn sn
  | .astore k => rv_s_st 2 k P.2.1 (pc + 2) E L K X cn sn
  | .iinc k z => rv_s_iinc k z P.2.1 (pc + 3) E L K X cn sn
  | .iadd => rv_s_bin 0 (pc + 1) E L K X cn sn
  | .isub => rv_s_bin 1 (pc + 1) E L K X cn sn
  | .imul => rv_s_bin 2 (pc + 1) E L K X cn sn
  | .idiv => rv_s_bin 3 (pc + 1) E L K X cn sn
  | .irem => rv_s_bin 4 (pc + 1) E L K X cn sn
  | .iand => rv_s_bin 5 (pc + 1) E L K X cn sn
  | .ior => rv_s_bin 6 (pc + 1) E L K X cn sn
  | .ixor => rv_s_bin 7 (pc + 1) E L K X cn sn
  | .ishl => rv_s_bin 8 (pc + 1) E L K X cn sn
  | .ishr => rv_s_bin 9 (pc + 1) E L K X cn sn
  | .iushr => rv_s_bin 10 (pc + 1) E L K X cn sn
  | .ladd => rv_s_lbin 0 (pc + 1) E L K X cn sn
  | .lsub => rv_s_lbin 1 (pc + 1) E L K X cn sn
  | .lmul => rv_s_lbin 2 (pc + 1) E L K X cn sn
  | .ldiv => rv_s_lbin 3 (pc + 1) E L K X cn sn
  | .lrem => rv_s_lbin 4 (pc + 1) E L K X cn sn
  | .land => rv_s_lbin 5 (pc + 1) E L K X cn sn
  | .lor => rv_s_lbin 6 (pc + 1) E L K X cn sn
  | .lxor => rv_s_lbin 7 (pc + 1) E L K X cn sn
  | .lshl => rv_s_lshl (pc + 1) E L K X cn sn
  | .i2b => rv_s_un 0 (pc + 1) E L K X cn sn
  | .i2c => rv_s_un 1 (pc + 1) E L K X cn sn
  | .i2s => rv_s_un 2 (pc + 1) E L K X cn sn
  | .ineg => rv_s_un 3 (pc + 1) E L K X cn sn
  | .i2l => rv_s_i2l (pc + 1) E L K X cn sn
  | .l2i => rv_s_l2i (pc + 1) E L K X cn sn
  | .lcmp => rv_s_lcmp (pc + 1) E L K X cn sn
  | .dup => rv_s_dup (pc + 1) E L K X cn sn
  | .dup2 => rv_s_dup2 (pc + 1) E L K X cn sn
  | .pop => rv_s_pop (pc + 1) E L K X cn sn
  | .if_icmp cd off => rv_s_icmp (rv_has P.1 pc) cd off pc E L K X cn sn
  | .ifCond cd off => rv_s_if (rv_has P.1 pc) cd off pc E L K X cn sn
  | .goto off => rv_s_goto off pc E L K X cn sn
  | .tableswitch d lo hi offs => rv_s_tsw d lo hi offs.toList pc E L K X cn sn
  | .lookupswitch d ps => rv_s_lsw d ps.toList pc E L K X cn sn
  | .getfield j => bif rs_4 K then rs_s_get T.2.2.2.2.2.2.2 j (pc + 3) E L K X cn sn else rv_s_get T.1 j (pc + 3) E L K X cn sn
  | .putfield j => rv_s_put T.1 P.2.2.2.2.2.2 j (pc + 3) E L K X cn sn
  | .iaload => rv_s_ald .iaload (pc + 1) E L K X cn sn
  | .baload => bif rs_04 K then rs_s_bald (pc + 1) E L K X cn sn else rv_s_ald .baload (pc + 1) E L K X cn sn
  | .laload => rv_s_ald .laload (pc + 1) E L K X cn sn
  | .iastore => rv_s_ast .iastore (pc + 1) E L K X cn sn
  | .bastore => rv_s_ast .bastore (pc + 1) E L K X cn sn
  | .lastore => rv_s_ast .lastore (pc + 1) E L K X cn sn
  | .arraylength => bif rs_4 K then rs_s_alen (pc + 1) E L K X cn sn else rv_s_alen (pc + 1) E L K X cn sn
  | .newarray t => rv_s_newa t P.2.2.2.2.1 P.2.2.2.2.2.1 (pc + 2) E L K X cn sn
  | .new j => rv_s_new T.2.1 j P.2.2.2.2.1 P.2.2.2.2.2.1 (pc + 3) E L K X cn sn
  | .invokespecial j => bif rv_has T.2.2.2.2.1 j then rv_s_obj P.2.2.1 P.2.2.2.1 (pc + 3) E L K X cn sn else none
  | .invokestatic j => match rv_fnd T.2.2.1 j with
    | some q => rv_s_mm q.2 P.2.2.1 P.2.2.2.1 P.2.2.2.2.1 P.2.2.2.2.2.1 (pc + 3) E L K X cn sn
    | none => bif rv_has T.2.2.2.1 j then rv_s_copy P.2.2.1 P.2.2.2.1 (pc + 3) E L K X cn sn else none
  | _ => none
section
variable {p : Program} {l : Launch} {e : Env} {R : Room} {s : State} {m : MethodId} {args : Array Value} {below : List Frame} {meth : Method} {c : Code} {Q : State → Prop} {D : va_G} {cl : List vw_C} {A : Nat → Prop} {cy : Nat → ClassId} {nL : Nat} {ρ : rv_Ho}
variable {cc : ByteArray} {own : String} {Ts : List Jvm.Cond} {pc n : Nat} {E : List rv_E} {L : List (Nat × rv_V)} {K : List rv_V} {X : List rv_C} {cn sn : Nat} {Ns : List rv_N} {st : Nat → Nat}
abbrev rv_OkN (p : Program) (l : Launch) (e : Env) (R : Room) (s : State) (m : MethodId) (args : Array Value) (below : List Frame) (meth : Method) (c : Code) (Q : State → Prop) (D : va_G) (cl : List vw_C) (A : Nat → Prop) (cy : Nat → ClassId) (nL : Nat) (ρ : rv_Ho) (N : rv_N) : Prop := rv_Ok p l e R s m args below meth c Q D cl A cy nL ρ N.1 N.2.1 N.2.2.1 N.2.2.2.1 N.2.2.2.2.1 N.2.2.2.2.2.1 N.2.2.2.2.2.2
theorem rv_one {N : rv_N} (h : some [N] = some Ns) (ok : ∀ N ∈ Ns, rv_OkN p l e R s m args below meth c Q D cl A cy nL ρ N) : rv_OkN p l e R s m args below meth c Q D cl A cy nL ρ N := ok N (by rw [← Option.some.inj h]; exact List.mem_singleton.mpr rfl)
theorem rv_q_ld {k i : Nat} (h : rv_s_ld k i n E L K X cn sn = some Ns) : ∃ j, rv_lk L i = some (k, j) ∧ Ns = [(n, E, L, (k, j) :: K, X, cn, sn)] := by
  unfold rv_s_ld at h
  split at h
  · rename_i a ha
    cases hk : Nat.beq a.1 k with
    | false => simp only [hk, cond_false] at h; cases h
    | true =>
      simp only [hk, cond_true] at h
      obtain ⟨a1, a2⟩ := a
      have hk : a1 = k := Nat.eq_of_beq_eq_true hk
      subst hk
      exact ⟨a2, ha, (Option.some.inj h).symm⟩
  · cases h
theorem rv_q_st {k i : Nat} (h : rv_s_st k i nL n E L K X cn sn = some Ns) : ∃ j r, K = (k, j) :: r ∧ i < nL ∧ Ns = [(n, E, rv_st L i (k, j), r, X, cn, sn)] := by
  unfold rv_s_st at h
  split at h
  · rename_i a r
    cases hk : (Nat.beq a.1 k && Nat.ble (i + 1) nL) with
    | false => simp only [hk, cond_false] at h; cases h
    | true =>
      simp only [hk, cond_true] at h
      rw [Bool.and_eq_true, Nat.ble_eq] at hk
      obtain ⟨a1, a2⟩ := a
      have hk1 : a1 = k := Nat.eq_of_beq_eq_true hk.1
      subst hk1
      exact ⟨a2, r, rfl, by omega, (Option.some.inj h).symm⟩
  · cases h
theorem rv_q_st2 {i : Nat} (h : rv_s_st2 i nL n E L K X cn sn = some Ns) : ∃ j r, K = (1, j) :: r ∧ i + 1 < nL ∧ Ns = [(n, E, rv_st2 L i (1, j), r, X, cn, sn)] := by
  unfold rv_s_st2 at h
  split at h
  · rename_i a r
    cases hk : (Nat.beq a.1 1 && Nat.ble (i + 2) nL) with
    | false => simp only [hk, cond_false] at h; cases h
    | true =>
      simp only [hk, cond_true] at h
      rw [Bool.and_eq_true, Nat.ble_eq] at hk
      obtain ⟨a1, a2⟩ := a
      have hk1 : a1 = 1 := Nat.eq_of_beq_eq_true hk.1
      subst hk1
      exact ⟨a2, r, rfl, by omega, (Option.some.inj h).symm⟩
  · cases h
theorem rv_q_bin (Cx : rv_Cx p s m args c cc own nL Ts D cl cy A st) {i : Instr} {op : Nat} (hop : rv_opc i = some op) (hdg : decode cc pc = .ok (i, 1)) (h : rv_s_bin op (pc + 1) E L K X cn sn = some Ns) (ok : ∀ N ∈ Ns, rv_OkN p l e R s m args below meth c Q D cl A cy nL ρ N) : rv_Ok p l e R s m args below meth c Q D cl A cy nL ρ pc E L K X cn sn := by
  unfold rv_s_bin at h
  split at h
  · rename_i y x r
    split at h
    · rename_i a b ha hb
      cases hk : (rv_i32 a && (rv_i32 b && rv_dv op b)) with
      | false => simp only [hk, cond_false] at h; cases h
      | true =>
        simp only [hk, cond_true] at h
        rw [Bool.and_eq_true, Bool.and_eq_true] at hk
        exact rv_o_bin Cx hop hdg ha hb hk.1 hk.2.1 hk.2.2 (rv_one h ok)
    · cases h
  · cases h
theorem rv_q_lbin (Cx : rv_Cx p s m args c cc own nL Ts D cl cy A st) {i : Instr} {op : Nat} (hop : rv_lopc i = some op) (hdg : decode cc pc = .ok (i, 1)) (h : rv_s_lbin op (pc + 1) E L K X cn sn = some Ns) (ok : ∀ N ∈ Ns, rv_OkN p l e R s m args below meth c Q D cl A cy nL ρ N) : rv_Ok p l e R s m args below meth c Q D cl A cy nL ρ pc E L K X cn sn := by
  unfold rv_s_lbin at h
  split at h
  · rename_i y x r
    split at h
    · rename_i a b ha hb
      cases hk : (rv_i64 a && (rv_i64 b && rv_dv op b)) with
      | false => simp only [hk, cond_false] at h; cases h
      | true =>
        simp only [hk, cond_true] at h
        rw [Bool.and_eq_true, Bool.and_eq_true] at hk
        exact rv_o_lbin Cx hop hdg ha hb hk.1 hk.2.1 hk.2.2 (rv_one h ok)
    · cases h
  · cases h
theorem rv_q_un (Cx : rv_Cx p s m args c cc own nL Ts D cl cy A st) {i : Instr} {op : Nat} (hop : rv_uopc i = some op) (hdg : decode cc pc = .ok (i, 1)) (h : rv_s_un op (pc + 1) E L K X cn sn = some Ns) (ok : ∀ N ∈ Ns, rv_OkN p l e R s m args below meth c Q D cl A cy nL ρ N) : rv_Ok p l e R s m args below meth c Q D cl A cy nL ρ pc E L K X cn sn := by
  unfold rv_s_un at h
  split at h
  · rename_i x r
    split at h
    · rename_i a ha
      cases hk : rv_i32 a with
      | false => simp only [hk, cond_false] at h; cases h
      | true =>
        simp only [hk, cond_true] at h
        exact rv_o_un Cx hop hdg ha hk (rv_one h ok)
    · cases h
  · cases h
theorem rv_q_i2l (Cx : rv_Cx p s m args c cc own nL Ts D cl cy A st) (hdg : decode cc pc = .ok (.i2l, 1)) (h : rv_s_i2l (pc + 1) E L K X cn sn = some Ns) (ok : ∀ N ∈ Ns, rv_OkN p l e R s m args below meth c Q D cl A cy nL ρ N) : rv_Ok p l e R s m args below meth c Q D cl A cy nL ρ pc E L K X cn sn := by
  unfold rv_s_i2l at h
  split at h
  · rename_i x r
    split at h
    · rename_i a ha
      cases hk : rv_i32 a with
      | false => simp only [hk, cond_false] at h; cases h
      | true =>
        simp only [hk, cond_true] at h
        exact rv_o_i2l Cx hdg ha hk (rv_one h ok)
    · cases h
  · cases h
theorem rv_q_l2i (Cx : rv_Cx p s m args c cc own nL Ts D cl cy A st) (hdg : decode cc pc = .ok (.l2i, 1)) (h : rv_s_l2i (pc + 1) E L K X cn sn = some Ns) (ok : ∀ N ∈ Ns, rv_OkN p l e R s m args below meth c Q D cl A cy nL ρ N) : rv_Ok p l e R s m args below meth c Q D cl A cy nL ρ pc E L K X cn sn := by
  unfold rv_s_l2i at h
  split at h
  · rename_i x r
    split at h
    · rename_i a ha
      cases hk : rv_i64 a with
      | false => simp only [hk, cond_false] at h; cases h
      | true =>
        simp only [hk, cond_true] at h
        exact rv_o_l2i Cx hdg ha hk (rv_one h ok)
    · cases h
  · cases h
theorem rv_q_lshl (Cx : rv_Cx p s m args c cc own nL Ts D cl cy A st) (hdg : decode cc pc = .ok (.lshl, 1)) (h : rv_s_lshl (pc + 1) E L K X cn sn = some Ns) (ok : ∀ N ∈ Ns, rv_OkN p l e R s m args below meth c Q D cl A cy nL ρ N) : rv_Ok p l e R s m args below meth c Q D cl A cy nL ρ pc E L K X cn sn := by
  unfold rv_s_lshl at h
  split at h
  · exact rv_o_lshl Cx hdg (rv_one h ok)
  · cases h
theorem rv_q_lcmp (Cx : rv_Cx p s m args c cc own nL Ts D cl cy A st) (hdg : decode cc pc = .ok (.lcmp, 1)) (h : rv_s_lcmp (pc + 1) E L K X cn sn = some Ns) (ok : ∀ N ∈ Ns, rv_OkN p l e R s m args below meth c Q D cl A cy nL ρ N) : rv_Ok p l e R s m args below meth c Q D cl A cy nL ρ pc E L K X cn sn := by
  unfold rv_s_lcmp at h
  split at h
  · rename_i y x r
    split at h
    · rename_i a b ha hb
      cases hk : (rv_i64 a && rv_i64 b) with
      | false => simp only [hk, cond_false] at h; cases h
      | true =>
        simp only [hk, cond_true] at h
        rw [Bool.and_eq_true] at hk
        exact rv_o_lcmp Cx hdg ha hb hk.1 hk.2 (rv_one h ok)
    · cases h
  · cases h
theorem rv_q_iinc (Cx : rv_Cx p s m args c cc own nL Ts D cl cy A st) {i : Nat} {z : Int} (hdg : decode cc pc = .ok (.iinc i z, 3)) (h : rv_s_iinc i z nL (pc + 3) E L K X cn sn = some Ns) (ok : ∀ N ∈ Ns, rv_OkN p l e R s m args below meth c Q D cl A cy nL ρ N) : rv_Ok p l e R s m args below meth c Q D cl A cy nL ρ pc E L K X cn sn := by
  unfold rv_s_iinc at h
  split at h
  · rename_i x hx
    split at h
    · rename_i a ha
      cases hk : (rv_i32 a && (Nat.ble (i + 1) nL && (rv_le rv_lo z && rv_le z rv_hi))) with
      | false => simp only [hk, cond_false] at h; cases h
      | true =>
        simp only [hk, cond_true] at h
        rw [Bool.and_eq_true, Bool.and_eq_true, Bool.and_eq_true, Nat.ble_eq] at hk
        exact rv_o_iinc Cx hdg hx ha hk.1 (by omega) hk.2.2.1 hk.2.2.2 (rv_one h ok)
    · cases h
  · cases h
theorem rv_mk_mem {L : List (Nat × rv_V)} {r : List rv_V} {Es : List (List rv_E)} {E' : List rv_E} (h : E' ∈ Es) : ((n, E', L, r, X, cn, sn) : rv_N) ∈ rv_mk n L r X cn sn Es := List.mem_map.mpr ⟨E', h, rfl⟩
theorem rv_q_icmp (Cx : rv_Cx p s m args c cc own nL Ts D cl cy A st) {sp : Bool} {cd : Jvm.ClassFile.Cond} {off : Int} (hdg : decode cc pc = .ok (.if_icmp cd off, 3)) (h : rv_s_icmp sp cd off pc E L K X cn sn = some Ns) (ok : ∀ N ∈ Ns, rv_OkN p l e R s m args below meth c Q D cl A cy nL ρ N) : rv_Ok p l e R s m args below meth c Q D cl A cy nL ρ pc E L K X cn sn := by
  unfold rv_s_icmp at h
  split at h
  · rename_i y x r
    split at h
    · rename_i a b ha hb
      cases hk : (rv_i32 a && (rv_i32 b && rv_le 0 (Int.ofNat pc + off))) with
      | false => simp only [hk, cond_false] at h; cases h
      | true =>
        simp only [hk, cond_true] at h
        rw [Bool.and_eq_true, Bool.and_eq_true] at hk
        have h := Option.some.inj h
        subst h
        exact rv_o_icmp Cx hdg (rv_tg_ok hk.2.2) sp sp ha hb hk.1 hk.2.1 (fun E' hE => ok _ (List.mem_append_left _ (rv_mk_mem hE))) (fun E' hE => ok _ (List.mem_append_right _ (rv_mk_mem hE)))
    · cases h
  · cases h
theorem rv_q_if (Cx : rv_Cx p s m args c cc own nL Ts D cl cy A st) {sp : Bool} {cd : Jvm.ClassFile.Cond} {off : Int} (hdg : decode cc pc = .ok (.ifCond cd off, 3)) (h : rv_s_if sp cd off pc E L K X cn sn = some Ns) (ok : ∀ N ∈ Ns, rv_OkN p l e R s m args below meth c Q D cl A cy nL ρ N) : rv_Ok p l e R s m args below meth c Q D cl A cy nL ρ pc E L K X cn sn := by
  unfold rv_s_if at h
  split at h
  · rename_i x r
    split at h
    · rename_i a ha
      cases hk : (rv_i32 a && rv_le 0 (Int.ofNat pc + off)) with
      | false => simp only [hk, cond_false] at h; cases h
      | true =>
        simp only [hk, cond_true] at h
        rw [Bool.and_eq_true] at hk
        have h := Option.some.inj h
        subst h
        exact rv_o_if Cx hdg (rv_tg_ok hk.2) sp sp ha hk.1 (fun E' hE => ok _ (List.mem_append_left _ (rv_mk_mem hE))) (fun E' hE => ok _ (List.mem_append_right _ (rv_mk_mem hE)))
    · cases h
  · cases h
theorem rv_q_goto (Cx : rv_Cx p s m args c cc own nL Ts D cl cy A st) {off : Int} (hdg : decode cc pc = .ok (.goto off, 3)) (h : rv_s_goto off pc E L K X cn sn = some Ns) (ok : ∀ N ∈ Ns, rv_OkN p l e R s m args below meth c Q D cl A cy nL ρ N) : rv_Ok p l e R s m args below meth c Q D cl A cy nL ρ pc E L K X cn sn := by
  unfold rv_s_goto at h
  cases hk : rv_le 0 (Int.ofNat pc + off) with
  | false => simp only [hk, cond_false] at h; cases h
  | true =>
    simp only [hk, cond_true] at h
    exact rv_o_goto Cx hdg (rv_tg_ok hk) (rv_one h ok)
theorem rv_q_tsw (Cx : rv_Cx p s m args c cc own nL Ts D cl cy A st) {dflt lo hi : Int} {offs : Array Int} {len : Nat} (hdg : decode cc pc = .ok (.tableswitch dflt lo hi offs, len)) (h : rv_s_tsw dflt lo hi offs.toList pc E L K X cn sn = some Ns) (ok : ∀ N ∈ Ns, rv_OkN p l e R s m args below meth c Q D cl A cy nL ρ N) : rv_Ok p l e R s m args below meth c Q D cl A cy nL ρ pc E L K X cn sn := by
  unfold rv_s_tsw at h
  split at h
  · rename_i x r
    split at h
    · rename_i a t ha ht
      cases hk : (rv_i32 a && (rv_le (hi - lo + 1) (Int.ofNat offs.toList.length) && rv_le 0 (Int.ofNat pc + dflt))) with
      | false => simp only [hk, cond_false] at h; cases h
      | true =>
        simp only [hk, cond_true] at h
        rw [Bool.and_eq_true, Bool.and_eq_true] at hk
        have h := Option.some.inj h
        subst h
        exact rv_o_tsw Cx hdg ha hk.1 hk.2.1 hk.2.2 ht (fun q hq => ok _ (List.mem_append_left _ (List.mem_map.mpr ⟨q, hq, rfl⟩))) (fun E' hE => ok _ (List.mem_append_right _ (rv_mk_mem hE)))
    · cases h
  · cases h
theorem rv_q_lsw (Cx : rv_Cx p s m args c cc own nL Ts D cl cy A st) {dflt : Int} {ps : Array (Int × Int)} {len : Nat} (hdg : decode cc pc = .ok (.lookupswitch dflt ps, len)) (h : rv_s_lsw dflt ps.toList pc E L K X cn sn = some Ns) (ok : ∀ N ∈ Ns, rv_OkN p l e R s m args below meth c Q D cl A cy nL ρ N) : rv_Ok p l e R s m args below meth c Q D cl A cy nL ρ pc E L K X cn sn := by
  unfold rv_s_lsw at h
  split at h
  · rename_i x r
    split at h
    · rename_i a t ha ht
      cases hk : (rv_i32 a && (ps.toList.zip (ps.toList.drop 1)).all (fun (a, next) => a.1 < next.1)) with
      | false => simp only [hk, cond_false] at h; cases h
      | true =>
        simp only [hk, cond_true] at h
        rw [Bool.and_eq_true] at hk
        have h := Option.some.inj h
        subst h
        exact rv_o_lsw Cx hdg hk.2 ha hk.1 ht (fun q hq => ok _ (List.mem_map.mpr ⟨q, hq, rfl⟩))
    · cases h
  · cases h
theorem rv_q_dup (Cx : rv_Cx p s m args c cc own nL Ts D cl cy A st) (hdg : decode cc pc = .ok (.dup, 1)) (h : rv_s_dup (pc + 1) E L K X cn sn = some Ns) (ok : ∀ N ∈ Ns, rv_OkN p l e R s m args below meth c Q D cl A cy nL ρ N) : rv_Ok p l e R s m args below meth c Q D cl A cy nL ρ pc E L K X cn sn := by
  unfold rv_s_dup at h
  split at h
  · rename_i a r
    cases hk : Nat.beq a.1 1 with
    | true => simp only [hk, cond_true] at h; cases h
    | false =>
      simp only [hk, cond_false] at h
      exact rv_o_dup Cx hdg hk (rv_one h ok)
  · cases h
theorem rv_q_dup2 (Cx : rv_Cx p s m args c cc own nL Ts D cl cy A st) (hdg : decode cc pc = .ok (.dup2, 1)) (h : rv_s_dup2 (pc + 1) E L K X cn sn = some Ns) (ok : ∀ N ∈ Ns, rv_OkN p l e R s m args below meth c Q D cl A cy nL ρ N) : rv_Ok p l e R s m args below meth c Q D cl A cy nL ρ pc E L K X cn sn := by
  unfold rv_s_dup2 at h
  split at h
  · rename_i a b r
    cases hk : (Nat.beq a.1 1 || Nat.beq b.1 1) with
    | true => simp only [hk, cond_true] at h; cases h
    | false =>
      simp only [hk, cond_false] at h
      rw [Bool.or_eq_false_iff] at hk
      exact rv_o_dup2 Cx hdg hk.1 hk.2 (rv_one h ok)
  · cases h
theorem rv_q_pop (Cx : rv_Cx p s m args c cc own nL Ts D cl cy A st) (hdg : decode cc pc = .ok (.pop, 1)) (h : rv_s_pop (pc + 1) E L K X cn sn = some Ns) (ok : ∀ N ∈ Ns, rv_OkN p l e R s m args below meth c Q D cl A cy nL ρ N) : rv_Ok p l e R s m args below meth c Q D cl A cy nL ρ pc E L K X cn sn := by
  unfold rv_s_pop at h
  split at h
  · rename_i a r
    cases hk : Nat.beq a.1 1 with
    | true => simp only [hk, cond_true] at h; cases h
    | false =>
      simp only [hk, cond_false] at h
      exact rv_o_pop Cx hdg hk (rv_one h ok)
  · cases h
theorem rv_q_get (Cx : rv_Cx p s m args c cc own nL Ts D cl cy A st) {FT : List rv_Fd} (hT : ∀ q ∈ FT, rv_F1 own Ts cl q) {j : Nat} (hdg : decode cc pc = .ok (.getfield j, 3)) (h : rv_s_get FT j (pc + 3) E L K X cn sn = some Ns) (ok : ∀ N ∈ Ns, rv_OkN p l e R s m args below meth c Q D cl A cy nL ρ N) : rv_Ok p l e R s m args below meth c Q D cl A cy nL ρ pc E L K X cn sn := by
  unfold rv_s_get at h
  split at h
  · rename_i q r
    split at h
    · rename_i fd o hfd ho
      split at h
      · rename_i a ha
        cases hk : Nat.beq o.1 fd.2.1 with
        | false => simp only [hk, cond_false] at h; cases h
        | true =>
          simp only [hk, cond_true] at h
          obtain ⟨f1, f2⟩ := rv_fnd_ok hfd
          have hk : o.1 = fd.2.1 := Nat.eq_of_beq_eq_true hk
          obtain ⟨o1, o2⟩ := o
          have hk : o1 = fd.2.1 := hk
          subst hk
          rw [← f2] at hdg
          exact rv_o_get Cx (hT fd f1) hdg ho ha (rv_one h ok)
      · cases h
    · cases h
  · cases h
theorem rv_q_put (Cx : rv_Cx p s m args c cc own nL Ts D cl cy A st) {FT : List rv_Fd} (hT : ∀ q ∈ FT, rv_F1 own Ts cl q) {ini : Bool} (hini : ini = true → meth.name = "<init>") {j : Nat} (hdg : decode cc pc = .ok (.putfield j, 3)) (h : rv_s_put FT ini j (pc + 3) E L K X cn sn = some Ns) (ok : ∀ N ∈ Ns, rv_OkN p l e R s m args below meth c Q D cl A cy nL ρ N) : rv_Ok p l e R s m args below meth c Q D cl A cy nL ρ pc E L K X cn sn := by
  unfold rv_s_put at h
  split at h
  · rename_i a q r
    split at h
    · rename_i fd o hfd ho
      cases hk : (Nat.beq o.1 fd.2.1 && (Nat.ble (fd.2.2.1 + 1) o.2.length && (rv_fit E fd.2.2.2.1 a && (!fd.2.2.2.2 || ini)))) with
      | false => simp only [hk, cond_false] at h; cases h
      | true =>
        simp only [hk, cond_true] at h
        rw [Bool.and_eq_true, Bool.and_eq_true, Bool.and_eq_true, Nat.ble_eq] at hk
        obtain ⟨f1, f2⟩ := rv_fnd_ok hfd
        obtain ⟨o1, o2⟩ := o
        have hk1 : o1 = fd.2.1 := Nat.eq_of_beq_eq_true hk.1
        subst hk1
        rw [← f2] at hdg
        have hfin : fd.2.2.2.2 = true → meth.name = "<init>" := fun hq => hini (by
          have h4 := hk.2.2.2
          rw [hq] at h4
          exact h4)
        exact rv_o_put Cx (hT fd f1) hfin hdg ho hk.2.1 hk.2.2.1 (rv_one h ok)
    · cases h
  · cases h
theorem rv_q_ald (Cx : rv_Cx p s m args c cc own nL Ts D cl cy A st) {ins : Instr} (hdg : decode cc pc = .ok (ins, 1)) (h : rv_s_ald ins (pc + 1) E L K X cn sn = some Ns) (ok : ∀ N ∈ Ns, rv_OkN p l e R s m args below meth c Q D cl A cy nL ρ N) : rv_Ok p l e R s m args below meth c Q D cl A cy nL ρ pc E L K X cn sn := by
  unfold rv_s_ald at h
  split at h
  · rename_i i q r
    split at h
    · rename_i ei a hi ha
      cases hk : (rv_idx ei a.2.1 && rv_ak ins a.1) with
      | false => simp only [hk, cond_false] at h; cases h
      | true =>
        simp only [hk, cond_true] at h
        rw [Bool.and_eq_true] at hk
        split at h
        · rename_i j hj
          exact rv_o_ald Cx hdg ha hi hk.1 hk.2 hj (rv_one h ok)
        · rename_i hh hj
          exact rv_o_ald Cx hdg ha hi hk.1 hk.2 hj (rv_one h ok)
        · cases h
    · cases h
  · cases h
theorem rv_q_ast (Cx : rv_Cx p s m args c cc own nL Ts D cl cy A st) {ins : Instr} (hdg : decode cc pc = .ok (ins, 1)) (h : rv_s_ast ins (pc + 1) E L K X cn sn = some Ns) (ok : ∀ N ∈ Ns, rv_OkN p l e R s m args below meth c Q D cl A cy nL ρ N) : rv_Ok p l e R s m args below meth c Q D cl A cy nL ρ pc E L K X cn sn := by
  unfold rv_s_ast at h
  split at h
  · rename_i k v i q r
    split at h
    · rename_i ei a ev hi ha hv
      cases hk : (rv_idx ei a.2.1 && rv_sk ins a.1 k ev) with
      | false => simp only [hk, cond_false] at h; cases h
      | true =>
        simp only [hk, cond_true] at h
        rw [Bool.and_eq_true] at hk
        split at h
        · rename_i a' hw
          exact rv_o_ast Cx hdg ha hi hv hk.1 hk.2 hw (rv_one h ok)
        · cases h
    · cases h
  · cases h
theorem rv_q_alen (Cx : rv_Cx p s m args c cc own nL Ts D cl cy A st) (hdg : decode cc pc = .ok (.arraylength, 1)) (h : rv_s_alen (pc + 1) E L K X cn sn = some Ns) (ok : ∀ N ∈ Ns, rv_OkN p l e R s m args below meth c Q D cl A cy nL ρ N) : rv_Ok p l e R s m args below meth c Q D cl A cy nL ρ pc E L K X cn sn := by
  unfold rv_s_alen at h
  split at h
  · rename_i q r
    split at h
    · rename_i a ha
      cases hk : (Nat.ble a.1 3 && Nat.ble a.2.1 2147483647) with
      | false => simp only [hk, cond_false] at h; cases h
      | true =>
        simp only [hk, cond_true] at h
        rw [Bool.and_eq_true] at hk
        exact rv_o_alen Cx hdg ha hk.1 hk.2 (rv_one h ok)
    · cases h
  · cases h
theorem rv_q_newa (Cx : rv_Cx p s m args c cc own nL Ts D cl cy A st) {T : rv_T} (hT : rv_TOk own Ts cl T) {at0 : ArrayType} (hdg : decode cc pc = .ok (.newarray at0, 2)) (h : rv_s_newa at0 R.cells R.slots (pc + 2) E L K X cn sn = some Ns) (ok : ∀ N ∈ Ns, rv_OkN p l e R s m args below meth c Q D cl A cy nL ρ N) : rv_Ok p l e R s m args below meth c Q D cl A cy nL ρ pc E L K X cn sn := by
  unfold rv_s_newa at h
  split at h
  · rename_i i r
    split at h
    · rename_i z z' w hi
      cases hk : (Nat.beq z z' && (Nat.ble (rv_at at0) 3 && (Nat.ble z 60000000 && (Nat.ble (cn + 1) R.cells && Nat.ble (sn + z) R.slots)))) with
      | false => simp only [hk, cond_false] at h; cases h
      | true =>
        simp only [hk, cond_true] at h
        rw [Bool.and_eq_true, Bool.and_eq_true, Bool.and_eq_true, Bool.and_eq_true] at hk
        obtain ⟨k1, k2, k3, k4, k5⟩ := hk
        rw [Nat.ble_eq] at k4 k5
        have hz : z = z' := Nat.eq_of_beq_eq_true k1
        subst hz
        have harr : Jvm.Cond.arrayClass (newarray.typeOf at0) ∈ Ts := by
          obtain ⟨-, -, -, -, -, -, -, a1, a2, a3, a4, -⟩ := hT
          cases at0 <;> first | exact a1 | exact a2 | exact a3 | exact a4 | exact absurd k2 (by decide)
        exact rv_o_newa Cx hdg harr hi k2 rfl rfl k3 k4 k5 (rv_one h ok)
    · cases h
  · cases h
theorem rv_q_new (Cx : rv_Cx p s m args c cc own nL Ts D cl cy A st) {NT : List rv_Nd} (hT : ∀ q ∈ NT, rv_N1 own Ts cl q) {j : Nat} (hdg : decode cc pc = .ok (.new j, 3)) (h : rv_s_new NT j R.cells R.slots (pc + 3) E L K X cn sn = some Ns) (ok : ∀ N ∈ Ns, rv_OkN p l e R s m args below meth c Q D cl A cy nL ρ N) : rv_Ok p l e R s m args below meth c Q D cl A cy nL ρ pc E L K X cn sn := by
  unfold rv_s_new at h
  split at h
  · rename_i nd hnd
    cases hk : (Nat.ble (cn + 1) R.cells && Nat.ble (sn + nd.2.2.length) R.slots) with
    | false => simp only [hk, cond_false] at h; cases h
    | true =>
      simp only [hk, cond_true] at h
      rw [Bool.and_eq_true, Nat.ble_eq, Nat.ble_eq] at hk
      obtain ⟨f1, f2⟩ := rv_fnd_ok hnd
      rw [← f2] at hdg
      exact rv_o_new Cx (hT nd f1) hdg hk.1 hk.2 (rv_one h ok)
  · cases h
theorem rv_q_mm (Cx : rv_Cx p s m args c cc own nL Ts D cl cy A st) {q : Nat × Nat} (hM : rv_M1 own Ts q) (hdg : decode cc pc = .ok (.invokestatic q.1, 3)) (h : rv_s_mm q.2 R.frames R.locals R.cells R.slots (pc + 3) E L K X cn sn = some Ns) (ok : ∀ N ∈ Ns, rv_OkN p l e R s m args below meth c Q D cl A cy nL ρ N) : rv_Ok p l e R s m args below meth c Q D cl A cy nL ρ pc E L K X cn sn := by
  unfold rv_s_mm at h
  split at h
  · rename_i y x r
    split at h
    · rename_i a b ha hb
      cases hk : (rv_i32 a && (rv_i32 b && (Nat.ble 1 R.frames && (Nat.ble (rv_catS r + 13) R.locals && (Nat.ble cn R.cells && Nat.ble sn R.slots))))) with
      | false => simp only [hk, cond_false] at h; cases h
      | true =>
        simp only [hk, cond_true] at h
        rw [Bool.and_eq_true, Bool.and_eq_true, Bool.and_eq_true, Bool.and_eq_true, Bool.and_eq_true, Nat.ble_eq, Nat.ble_eq, Nat.ble_eq, Nat.ble_eq] at hk
        obtain ⟨k1, k2, k3, k4, k5, k6⟩ := hk
        exact rv_o_mm Cx hM hdg ha hb k1 k2 k3 k4 k5 k6 (rv_one h ok)
    · cases h
  · cases h
theorem rv_q_copy (Cx : rv_Cx p s m args c cc own nL Ts D cl cy A st) {i : Nat} (hY : rv_Y1 own Ts i) (hdg : decode cc pc = .ok (.invokestatic i, 3)) (h : rv_s_copy R.frames R.locals (pc + 3) E L K X cn sn = some Ns) (ok : ∀ N ∈ Ns, rv_OkN p l e R s m args below meth c Q D cl A cy nL ρ N) : rv_Ok p l e R s m args below meth c Q D cl A cy nL ρ pc E L K X cn sn := by
  unfold rv_s_copy at h
  split at h
  · rename_i z dp q1 sp q0 r
    split at h
    · rename_i a0 a1 ha0 ha1
      split at h
      · rename_i en ed es hn hd hs
        split at h
        · rename_i h0 h1 u0 u1
          cases hk : (Nat.beq a0.1 1 && (Nat.beq a1.1 1 && (rv_cpb en es a0.2.1 && (rv_cpb en ed a1.2.1 && (Nat.ble 1 R.frames && Nat.ble (rv_catS r + 18) R.locals))))) with
          | false => simp only [hk, cond_false] at h; cases h
          | true =>
            simp only [hk, cond_true] at h
            rw [Bool.and_eq_true, Bool.and_eq_true, Bool.and_eq_true, Bool.and_eq_true, Bool.and_eq_true, Nat.ble_eq, Nat.ble_eq] at hk
            obtain ⟨k1, k2, k3, k4, k5, k6⟩ := hk
            exact rv_o_copy Cx hY hdg ha0 ha1 hn hd hs k1 k2 k3 k4 u0 u1 k5 k6 (rv_one h ok)
        · cases h
      · cases h
    · cases h
  · cases h
theorem rv_q_obj (Cx : rv_Cx p s m args c cc own nL Ts D cl cy A st) {i : Nat} (hO : rv_O1 own Ts i) (hdg : decode cc pc = .ok (.invokespecial i, 3)) (h : rv_s_obj R.frames R.locals (pc + 3) E L K X cn sn = some Ns) (ok : ∀ N ∈ Ns, rv_OkN p l e R s m args below meth c Q D cl A cy nL ρ N) : rv_Ok p l e R s m args below meth c Q D cl A cy nL ρ pc E L K X cn sn := by
  unfold rv_s_obj at h
  split at h
  · rename_i q r
    cases hk : (Nat.ble 1 R.frames && Nat.ble (rv_catS r + 12) R.locals) with
    | false => simp only [hk, cond_false] at h; cases h
    | true =>
      simp only [hk, cond_true] at h
      rw [Bool.and_eq_true, Nat.ble_eq, Nat.ble_eq] at hk
      exact rv_o_obj Cx hO hdg hk.1 hk.2 (rv_one h ok)
  · cases h
theorem rs_kind {n N j : Nat} : rv_ok n N (4, j) := ⟨fun z => by have z : 4 < 2 := z; omega, fun z => by have z : 4 = 2 := z; omega⟩
theorem rs_K4 {n N j : Nat} {K : List rv_V} (h : ∀ a ∈ K, rv_ok n N a) : ∀ a ∈ (4, j) :: K, rv_ok n N a := fun a ha => by
  rcases List.mem_cons.mp ha with h1 | h1
  · rw [h1]; exact rs_kind
  · exact h a h1
theorem rs_bb : ∀ l ∈ rs_byt, ∀ b ∈ l, -128 ≤ b.toInt ∧ b.toInt ≤ 127 := by decide +kernel
theorem rs_b (i n : Nat) : -128 ≤ ((rs_byt.getD i []).getD n 0).toInt ∧ ((rs_byt.getD i []).getD n 0).toInt ≤ 127 := by
  rw [List.getD_eq_getElem?_getD, List.getD_eq_getElem?_getD]
  cases h1 : rs_byt[i]? with
  | none => simp
  | some l =>
    show -128 ≤ ((l[n]?).getD 0).toInt ∧ ((l[n]?).getD 0).toInt ≤ 127
    cases h2 : l[n]? with
    | none => simp
    | some b => exact rs_bb l (List.mem_of_getElem? h1) b (List.mem_of_getElem? h2)
theorem rs_q_ldc (Cx : rv_Cx p s m args c cc own nL Ts D cl cy A st) (hst : ρ.2.2 = st) {xt : rv_Xt} (hxt : rs_TOk own Ts xt) {j : Nat} (hdg : decode cc pc = .ok (.ldc j, 2)) (h : rs_s_ldc xt j (pc + 2) E L K X cn sn = some Ns) (ok : ∀ N ∈ Ns, rv_OkN p l e R s m args below meth c Q D cl A cy nL ρ N) : rv_Ok p l e R s m args below meth c Q D cl A cy nL ρ pc E L K X cn sn := by
  obtain ⟨hx, hbb, -, hown, hts, hK, hA, hSt⟩ := Cx
  unfold rs_s_ldc at h
  split at h
  · rename_i q hq
    obtain ⟨f1, f2⟩ := rv_fnd_ok hq
    obtain ⟨o1, o2⟩ := hxt.1 q f1
    intro g ls H locs RR
    have hg : g.2.2.2 = st := RR.2.2.2.1.2.2.trans hst
    have h3 : W p l e R s m args below meth c H locs cn sn Q (F0 m (pc + 2) ls (.ref (g.2.2.2 q.2) :: K.map (rv_v g))) := (rv_one h ok) g ls H locs (RR.sK (rs_K4 RR.kK))
    rw [hg] at h3
    subst o1
    rcases o2 with ⟨a1, a2⟩ | ⟨a1, a2⟩
    · rw [← f2, a1] at hdg
      rw [a2] at h3
      exact va_ldcS hx hbb hown hSt.2.1 hdg h3
    · rw [← f2, a1] at hdg
      rw [a2] at h3
      exact va_ldcS hx hbb hown hSt.2.2.1 hdg h3
  · cases h
theorem rs_q_gets (Cx : rv_Cx p s m args c cc own nL Ts D cl cy A st) {xt : rv_Xt} (hxt : rs_TOk own Ts xt) {j : Nat} (hdg : decode cc pc = .ok (.getstatic j, 3)) (h : rs_s_gets xt j (pc + 3) E L K X cn sn = some Ns) (ok : ∀ N ∈ Ns, rv_OkN p l e R s m args below meth c Q D cl A cy nL ρ N) : rv_Ok p l e R s m args below meth c Q D cl A cy nL ρ pc E L K X cn sn := by
  obtain ⟨hx, hbb, -, hown, hts, hK, hA, hSt⟩ := Cx
  unfold rs_s_gets at h
  cases hk : rv_has xt.2.1 j with
  | false => simp only [hk, cond_false] at h; cases h
  | true =>
    simp only [hk, cond_true] at h
    intro g ls H locs RR
    have k := rv_pushI (pc' := pc + 3) (x := 1) RR RR.kK (rv_own (g := g) (lo := 1) (hi := 1) (by decide) (by decide)) rv_fs_nil (rv_one h ok)
    exact va_gets hx hbb hSt.2.2.2.1 RR.2.2.2.2.2.2.2 hown (hts _ (hxt.2.1 j (rv_has_ok hk))) (fun _ z => z) hdg k
theorem rs_q_get (Cx : rv_Cx p s m args c cc own nL Ts D cl cy A st) (hst : ρ.2.2 = st) {xt : rv_Xt} (hxt : rs_TOk own Ts xt) {i : Nat} (hdg : decode cc pc = .ok (.getfield i, 3)) (h : rs_s_get xt i (pc + 3) E L K X cn sn = some Ns) (ok : ∀ N ∈ Ns, rv_OkN p l e R s m args below meth c Q D cl A cy nL ρ N) : rv_Ok p l e R s m args below meth c Q D cl A cy nL ρ pc E L K X cn sn := by
  obtain ⟨hx, hbb, -, hown, hts, hK, hA, hSt⟩ := Cx
  unfold rs_s_get at h
  split at h
  · rename_i j r
    cases hj : (Nat.beq j 0 || Nat.beq j 2) with
    | false => simp only [hj, cond_false] at h; cases h
    | true =>
      simp only [hj, cond_true] at h
      rw [Bool.or_eq_true] at hj
      split at h
      · rename_i q hq
        obtain ⟨f1, f2⟩ := rv_fnd_ok hq
        have hl := hxt.2.2 q f1
        rw [f2] at hl
        intro g ls H locs RR
        have hg : g.2.2.2 = st := RR.2.2.2.1.2.2.trans hst
        have hS := RR.2.2.2.2.2.2.2
        have hr : ∀ a ∈ r, rv_ok E.length X.length a := fun a h => RR.kK a (List.mem_cons_of_mem _ h)
        show W p l e R s m args below meth c H locs cn sn Q (F0 m pc ls (.ref (g.2.2.2 j) :: r.map (rv_v g)))
        obtain ⟨k0, hk0, e0, e1⟩ : ∃ k0, k0 < 2 ∧ j = 2 * k0 ∧ j + 1 = 2 * k0 + 1 := by
          rcases hj with z | z
          · exact ⟨0, by decide, Nat.eq_of_beq_eq_true z, by rw [Nat.eq_of_beq_eq_true z]⟩
          · exact ⟨1, by decide, Nat.eq_of_beq_eq_true z, by rw [Nat.eq_of_beq_eq_true z]⟩
        obtain ⟨-, c2, c3, -⟩ := hSt.1.1 k0 hk0
        rw [hg, e0]
        cases hq2 : Nat.beq q.2 0 with
        | true =>
          simp only [hq2, cond_true] at h
          have hq2 := Nat.eq_of_beq_eq_true hq2
          have hl : Jvm.Cond.fieldLink own i "java/lang/String" "value" "[B" ∈ Ts := by
            rcases hl with z | z
            · exact z.2
            · omega
          have h3 : W p l e R s m args below meth c H locs cn sn Q (F0 m (pc + 3) ls (.ref (g.2.2.2 (j + 1)) :: r.map (rv_v g))) := (rv_one h ok) g ls H locs (RR.sK (rs_K4 hr))
          rw [hg, e1] at h3
          exact vk_getf hx hbb c3 hS hown (hts _ hl) (fun _ z => z) hdg h3
        | false =>
          simp only [hq2, cond_false] at h
          have hl : Jvm.Cond.fieldLink own i "java/lang/String" "coder" "B" ∈ Ts := by
            rcases hl with z | z
            · rw [z.1] at hq2; cases hq2
            · exact z.2
          have k := rv_pushI (pc' := pc + 3) (x := 0) RR hr (rv_own (g := g) (lo := 0) (hi := 0) (by decide) (by decide)) rv_fs_nil (rv_one h ok)
          exact vk_getf hx hbb c2 hS hown (hts _ hl) (fun _ z => z) hdg k
      · cases h
  · cases h
theorem rs_odd {j : Nat} (h : (Nat.beq j 1 || Nat.beq j 3) = true) : ∃ k0, k0 < 2 ∧ j = 2 * k0 + 1 ∧ rs_len.getD k0 0 = rs_ln j := by
  rw [Bool.or_eq_true] at h
  rcases h with z | z
  · exact ⟨0, by decide, Nat.eq_of_beq_eq_true z, by rw [Nat.eq_of_beq_eq_true z]; rfl⟩
  · exact ⟨1, by decide, Nat.eq_of_beq_eq_true z, by rw [Nat.eq_of_beq_eq_true z]; rfl⟩
theorem rs_ln_b (j : Nat) : (Int32.ofNat (rs_ln j)).toInt = Int.ofNat (rs_ln j) := by
  unfold rs_ln
  cases Nat.beq j 1 <;> decide
theorem rs_q_alen (Cx : rv_Cx p s m args c cc own nL Ts D cl cy A st) (hst : ρ.2.2 = st) (hdg : decode cc pc = .ok (.arraylength, 1)) (h : rs_s_alen (pc + 1) E L K X cn sn = some Ns) (ok : ∀ N ∈ Ns, rv_OkN p l e R s m args below meth c Q D cl A cy nL ρ N) : rv_Ok p l e R s m args below meth c Q D cl A cy nL ρ pc E L K X cn sn := by
  obtain ⟨hx, hbb, -, hown, hts, hK, hA, hSt⟩ := Cx
  unfold rs_s_alen at h
  split at h
  · rename_i j r
    cases hj : (Nat.beq j 1 || Nat.beq j 3) with
    | false => simp only [hj, cond_false] at h; cases h
    | true =>
      simp only [hj, cond_true] at h
      obtain ⟨k0, hk0, e0, e1⟩ := rs_odd hj
      intro g ls H locs RR
      have hg : g.2.2.2 = st := RR.2.2.2.1.2.2.trans hst
      have hr : ∀ a ∈ r, rv_ok E.length X.length a := fun a h => RR.kK a (List.mem_cons_of_mem _ h)
      show W p l e R s m args below meth c H locs cn sn Q (F0 m pc ls (.ref (g.2.2.2 j) :: r.map (rv_v g)))
      obtain ⟨-, -, -, c4⟩ := hSt.1.1 k0 hk0
      have k := rv_pushI (pc' := pc + 1) (x := Int32.ofNat (rs_ln j)) RR hr (rv_own (g := g) (lo := Int.ofNat (rs_ln j)) (hi := Int.ofNat (rs_ln j)) (by rw [rs_ln_b]; exact Int.le_refl _) (by rw [rs_ln_b]; exact Int.le_refl _)) rv_fs_nil (rv_one h ok)
      have e2 : g.2.2.2 j = st (2 * k0 + 1) := by rw [hg, ← e0]
      rw [e2]
      exact va_tlen hx hbb c4 RR.2.2.2.2.2.2.2 (by rw [e1]) hdg k
  · cases h
theorem rs_q_bald (Cx : rv_Cx p s m args c cc own nL Ts D cl cy A st) (hst : ρ.2.2 = st) (hdg : decode cc pc = .ok (.baload, 1)) (h : rs_s_bald (pc + 1) E L K X cn sn = some Ns) (ok : ∀ N ∈ Ns, rv_OkN p l e R s m args below meth c Q D cl A cy nL ρ N) : rv_Ok p l e R s m args below meth c Q D cl A cy nL ρ pc E L K X cn sn := by
  obtain ⟨hx, hbb, -, hown, hts, hK, hA, hSt⟩ := Cx
  unfold rs_s_bald at h
  split at h
  · rename_i i j r
    split at h
    · rename_i ei hi
      cases hk : (rv_idx ei (rs_ln j) && (Nat.beq j 1 || Nat.beq j 3)) with
      | false => simp only [hk, cond_false] at h; cases h
      | true =>
        simp only [hk, cond_true] at h
        rw [Bool.and_eq_true] at hk
        obtain ⟨k0, hk0, e0, e1⟩ := rs_odd hk.2
        intro g ls H locs RR
        have hg : g.2.2.2 = st := RR.2.2.2.1.2.2.trans hst
        have hr : ∀ a ∈ r, rv_ok E.length X.length a := fun a h => RR.kK a (List.mem_cons_of_mem _ (List.mem_cons_of_mem _ h))
        obtain ⟨b1, b2, -⟩ := RR.1 i ei hi
        obtain ⟨tz, hin, hcl⟩ := rv_idx_ok hk.1 b1 b2
        obtain ⟨-, -, -, c4⟩ := hSt.1.1 k0 hk0
        have hb := rs_b k0 (Int32.ofInt (g.1 i)).toNatClampNeg
        have k := rv_pushI (pc' := pc + 1) (x := (rs_byt.getD k0 []).getD (Int32.ofInt (g.1 i)).toNatClampNeg 0) RR hr (rv_own (g := g) (lo := Int.negSucc 127) (hi := Int.ofNat 127) hb.1 hb.2) rv_fs_nil (rv_one h ok)
        show W p l e R s m args below meth c H locs cn sn Q (F0 m pc ls (.int (Int32.ofInt (g.1 i)) :: .ref (g.2.2.2 j) :: r.map (rv_v g)))
        have e2 : g.2.2.2 j = st (2 * k0 + 1) := by rw [hg, ← e0]
        rw [e2]
        rw [← e1] at hin
        exact va_tb hx hbb c4 RR.2.2.2.2.2.2.2 hin rfl hdg k
    · cases h
  · cases h
theorem rs_q_ld {i : Nat} (h : rs_s_ld i n E L K X cn sn = some Ns) : ∃ k j, (k = 2 ∨ k = 4) ∧ rv_lk L i = some (k, j) ∧ Ns = [(n, E, L, (k, j) :: K, X, cn, sn)] := by
  unfold rs_s_ld at h
  split at h
  · obtain ⟨j, e1, e2⟩ := rv_q_ld h
    exact ⟨4, j, Or.inr rfl, e1, e2⟩
  · obtain ⟨j, e1, e2⟩ := rv_q_ld h
    exact ⟨2, j, Or.inl rfl, e1, e2⟩
theorem rv_step_ok (Cx : rv_Cx p s m args c cc own nL Ts D cl cy A st) (hst : ρ.2.2 = st) {T : rv_T} (hT : rv_TOk own Ts cl T) {P : rv_P} (hP : rv_POk R meth nL P) {i : Instr} {len : Nat} (hdg : decode cc pc = .ok (i, len)) (hln : rv_ln i len = true) (h : rv_step T P i pc E L K X cn sn = some Ns) (ok : ∀ N ∈ Ns, rv_OkN p l e R s m args below meth c Q D cl A cy nL ρ N) : rv_Ok p l e R s m args below meth c Q D cl A cy nL ρ pc E L K X cn sn := by
  obtain ⟨P1, P2, P3, P4, P5, P6⟩ := hP
  have hx := Cx.1
  have hbb := Cx.2.1
  have hown := Cx.2.2.2.1
  have hts := Cx.2.2.2.2.1
  unfold rv_step at h
  rw [P1, ← P2, ← P3, ← P4, ← P5] at h
  have L1 : Nat.beq len 1 = true → decode cc pc = .ok (i, 1) := fun q => by rw [← Nat.eq_of_beq_eq_true q]; exact hdg
  have L2 : Nat.beq len 2 = true → decode cc pc = .ok (i, 2) := fun q => by rw [← Nat.eq_of_beq_eq_true q]; exact hdg
  have L3 : Nat.beq len 3 = true → decode cc pc = .ok (i, 3) := fun q => by rw [← Nat.eq_of_beq_eq_true q]; exact hdg
  split at h
  · exact rv_o_const (i := .nop) Cx (fun ls rest H locs k => lv_iconst hx hbb (L1 hln) rfl k) (rv_one h ok)
  · exact rv_o_const (i := .nop) Cx (fun ls rest H locs k => lv_bipush hx hbb (L2 hln) rfl k) (rv_one h ok)
  · exact rv_o_const (i := .nop) Cx (fun ls rest H locs k => lv_sipush hx hbb (L3 hln) rfl k) (rv_one h ok)
  · exact rv_o_constL Cx (fun ls rest H locs k => lv_lconst hx hbb (L1 hln) rfl k) (rv_one h ok)
  · rename_i j
    split at h
    · rename_i q hq
      obtain ⟨f1, f2⟩ := rv_fnd_ok hq
      have hc := hts _ (hT.2.2.2.2.2.1 q f1)
      rw [f2] at hc
      exact rv_o_const (i := .nop) Cx (fun ls rest H locs k => lv_ldc hx hbb hown hc (L2 hln) k) (rv_one h ok)
    · exact rs_q_ldc Cx hst hT.2.2.2.2.2.2.2.2.2.2.2 (L2 hln) h ok
  · exact rs_q_gets Cx hT.2.2.2.2.2.2.2.2.2.2.2 (L3 hln) h ok
  · rename_i j
    split at h
    · rename_i q hq
      obtain ⟨f1, f2⟩ := rv_fnd_ok hq
      have hc := hts _ (hT.2.2.2.2.2.1 q f1)
      rw [f2] at hc
      exact rv_o_const (i := .nop) Cx (fun ls rest H locs k => lv_ldcw hx hbb hown hc (L3 hln) k) (rv_one h ok)
    · cases h
  · rename_i j
    split at h
    · rename_i q hq
      obtain ⟨f1, f2⟩ := rv_fnd_ok hq
      have hc := hts _ (hT.2.2.2.2.2.2.1 q f1)
      rw [f2] at hc
      exact rv_o_constL Cx (fun ls rest H locs k => lv_ldc2 hx hbb hown hc (L3 hln) k) (rv_one h ok)
    · cases h
  · obtain ⟨j, e1, e2⟩ := rv_q_ld h
    subst e2
    exact rv_o_load e1 (fun g ls rest H locs hl k => lv_iload_n hx hbb (L1 hln) rfl hl k) (rv_one rfl ok)
  · obtain ⟨j, e1, e2⟩ := rv_q_ld h
    subst e2
    exact rv_o_load e1 (fun g ls rest H locs hl k => lv_iload hx hbb (L2 hln) hl k) (rv_one rfl ok)
  · obtain ⟨j, e1, e2⟩ := rv_q_ld h
    subst e2
    exact rv_o_load e1 (fun g ls rest H locs hl k => lv_lload_n hx hbb (L1 hln) rfl hl k) (rv_one rfl ok)
  · obtain ⟨j, e1, e2⟩ := rv_q_ld h
    subst e2
    exact rv_o_load e1 (fun g ls rest H locs hl k => lv_lload hx hbb (L2 hln) hl k) (rv_one rfl ok)
  · obtain ⟨k0, j, ek, e1, e2⟩ := rs_q_ld h
    subst e2
    rcases ek with rfl | rfl
    · exact rv_o_load e1 (fun g ls rest H locs hl k => lv_aload_n hx hbb (L1 hln) rfl hl k) (rv_one rfl ok)
    · exact rv_o_load e1 (fun g ls rest H locs hl k => lv_aload_n hx hbb (L1 hln) rfl hl k) (rv_one rfl ok)
  · obtain ⟨k0, j, ek, e1, e2⟩ := rs_q_ld h
    subst e2
    rcases ek with rfl | rfl
    · exact rv_o_load e1 (fun g ls rest H locs hl k => lv_aload hx hbb (L2 hln) hl k) (rv_one rfl ok)
    · exact rv_o_load e1 (fun g ls rest H locs hl k => lv_aload hx hbb (L2 hln) hl k) (rv_one rfl ok)
  · obtain ⟨j, r, e1, e2, e3⟩ := rv_q_st h
    subst e1; subst e3
    exact rv_o_store (fun g ls rest H locs hl k => lv_istore_n hx hbb (L1 hln) rfl hl e2 (rv_st_lv g _ (0, j)) k) (rv_one rfl ok)
  · obtain ⟨j, r, e1, e2, e3⟩ := rv_q_st h
    subst e1; subst e3
    exact rv_o_store (fun g ls rest H locs hl k => lv_istore hx hbb (L2 hln) hl e2 (rv_st_lv g _ (0, j)) k) (rv_one rfl ok)
  · obtain ⟨j, r, e1, e2, e3⟩ := rv_q_st2 h
    subst e1; subst e3
    exact rv_o_store2 (fun g ls rest H locs hl k => lv_lstore_n hx hbb (L1 hln) rfl hl e2 (rv_st2_lv g _ (1, j)) k) (rv_one rfl ok)
  · obtain ⟨j, r, e1, e2, e3⟩ := rv_q_st2 h
    subst e1; subst e3
    exact rv_o_store2 (fun g ls rest H locs hl k => lv_lstore hx hbb (L2 hln) hl e2 (rv_st2_lv g _ (1, j)) k) (rv_one rfl ok)
  · obtain ⟨j, r, e1, e2, e3⟩ := rv_q_st h
    subst e1; subst e3
    exact rv_o_store (fun g ls rest H locs hl k => lv_astore_n hx hbb (L1 hln) rfl hl e2 (rv_st_lv g _ (2, j)) k) (rv_one rfl ok)
  · obtain ⟨j, r, e1, e2, e3⟩ := rv_q_st h
    subst e1; subst e3
    exact rv_o_store (fun g ls rest H locs hl k => lv_astore hx hbb (L2 hln) hl e2 (rv_st_lv g _ (2, j)) k) (rv_one rfl ok)
  · exact rv_q_iinc Cx (L3 hln) h ok
  · exact rv_q_bin Cx (i := .iadd) rfl (L1 hln) h ok
  · exact rv_q_bin Cx (i := .isub) rfl (L1 hln) h ok
  · exact rv_q_bin Cx (i := .imul) rfl (L1 hln) h ok
  · exact rv_q_bin Cx (i := .idiv) rfl (L1 hln) h ok
  · exact rv_q_bin Cx (i := .irem) rfl (L1 hln) h ok
  · exact rv_q_bin Cx (i := .iand) rfl (L1 hln) h ok
  · exact rv_q_bin Cx (i := .ior) rfl (L1 hln) h ok
  · exact rv_q_bin Cx (i := .ixor) rfl (L1 hln) h ok
  · exact rv_q_bin Cx (i := .ishl) rfl (L1 hln) h ok
  · exact rv_q_bin Cx (i := .ishr) rfl (L1 hln) h ok
  · exact rv_q_bin Cx (i := .iushr) rfl (L1 hln) h ok
  · exact rv_q_lbin Cx (i := .ladd) rfl (L1 hln) h ok
  · exact rv_q_lbin Cx (i := .lsub) rfl (L1 hln) h ok
  · exact rv_q_lbin Cx (i := .lmul) rfl (L1 hln) h ok
  · exact rv_q_lbin Cx (i := .ldiv) rfl (L1 hln) h ok
  · exact rv_q_lbin Cx (i := .lrem) rfl (L1 hln) h ok
  · exact rv_q_lbin Cx (i := .land) rfl (L1 hln) h ok
  · exact rv_q_lbin Cx (i := .lor) rfl (L1 hln) h ok
  · exact rv_q_lbin Cx (i := .lxor) rfl (L1 hln) h ok
  · exact rv_q_lshl Cx (L1 hln) h ok
  · exact rv_q_un Cx (i := .i2b) rfl (L1 hln) h ok
  · exact rv_q_un Cx (i := .i2c) rfl (L1 hln) h ok
  · exact rv_q_un Cx (i := .i2s) rfl (L1 hln) h ok
  · exact rv_q_un Cx (i := .ineg) rfl (L1 hln) h ok
  · exact rv_q_i2l Cx (L1 hln) h ok
  · exact rv_q_l2i Cx (L1 hln) h ok
  · exact rv_q_lcmp Cx (L1 hln) h ok
  · exact rv_q_dup Cx (L1 hln) h ok
  · exact rv_q_dup2 Cx (L1 hln) h ok
  · exact rv_q_pop Cx (L1 hln) h ok
  · exact rv_q_icmp Cx (L3 hln) h ok
  · exact rv_q_if Cx (L3 hln) h ok
  · exact rv_q_goto Cx (L3 hln) h ok
  · exact rv_q_tsw Cx hdg h ok
  · exact rv_q_lsw Cx hdg h ok
  · cases h4 : rs_4 K with
    | true => simp only [h4, cond_true] at h; exact rs_q_get Cx hst hT.2.2.2.2.2.2.2.2.2.2.2 (L3 hln) h ok
    | false => simp only [h4, cond_false] at h; exact rv_q_get Cx hT.1 (L3 hln) h ok
  · exact rv_q_put Cx hT.1 P6 (L3 hln) h ok
  · exact rv_q_ald Cx (L1 hln) h ok
  · cases h4 : rs_04 K with
    | true => simp only [h4, cond_true] at h; exact rs_q_bald Cx hst (L1 hln) h ok
    | false => simp only [h4, cond_false] at h; exact rv_q_ald Cx (L1 hln) h ok
  · exact rv_q_ald Cx (L1 hln) h ok
  · exact rv_q_ast Cx (L1 hln) h ok
  · exact rv_q_ast Cx (L1 hln) h ok
  · exact rv_q_ast Cx (L1 hln) h ok
  · cases h4 : rs_4 K with
    | true => simp only [h4, cond_true] at h; exact rs_q_alen Cx hst (L1 hln) h ok
    | false => simp only [h4, cond_false] at h; exact rv_q_alen Cx (L1 hln) h ok
  · exact rv_q_newa Cx hT (L2 hln) h ok
  · exact rv_q_new Cx hT.2.1 (L3 hln) h ok
  · rename_i j
    cases hk : rv_has T.2.2.2.2.1 j with
    | false => simp only [hk, cond_false] at h; cases h
    | true =>
      simp only [hk, cond_true] at h
      exact rv_q_obj Cx (hT.2.2.2.2.1 j (rv_has_ok hk)) (L3 hln) h ok
  · rename_i j
    split at h
    · rename_i q hq
      obtain ⟨f1, f2⟩ := rv_fnd_ok hq
      subst f2
      exact rv_q_mm Cx (hT.2.2.1 q f1) (L3 hln) h ok
    · cases hk : rv_has T.2.2.2.1 j with
      | false => simp only [hk, cond_false] at h; cases h
      | true =>
        simp only [hk, cond_true] at h
        exact rv_q_copy Cx (hT.2.2.2.1 j (rv_has_ok hk)) (L3 hln) h ok
  · cases h
end
