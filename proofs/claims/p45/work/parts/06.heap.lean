/-! rows: stack, unary, longs, switches, fields, arrays, new cells -/
def rv_lf (op : Nat) (x y : Int64) : Int64 := match op with
  | 0 => x + y
  | 1 => x - y
  | 2 => x * y
  | 3 => x / y
  | 4 => x - x / y * y
  | 5 => x &&& y
  | 6 => x ||| y
  | _ => x ^^^ y
def rv_lalu (op : Nat) (a b : rv_E) : Int × Int := bif rv_le a.2.1 a.1 && rv_le b.2.1 b.1 then ((rv_lf op (Int64.ofInt a.1) (Int64.ofInt b.1)).toInt, (rv_lf op (Int64.ofInt a.1) (Int64.ofInt b.1)).toInt) else (rv_lo64, rv_hi64)
theorem rv_top64 (x : Int64) : rv_lo64 ≤ x.toInt ∧ x.toInt ≤ rv_hi64 := by
  have := rv_rngL x
  rw [rv_lo64_eq, rv_hi64_eq]
  omega
theorem rv_lalu_ok (op : Nat) {a b : rv_E} {x y : Int64} (hx1 : a.1 ≤ x.toInt) (hx2 : x.toInt ≤ a.2.1) (hy1 : b.1 ≤ y.toInt) (hy2 : y.toInt ≤ b.2.1) : (rv_lalu op a b).1 ≤ (rv_lf op x y).toInt ∧ (rv_lf op x y).toInt ≤ (rv_lalu op a b).2 := by
  unfold rv_lalu
  cases h : (rv_le a.2.1 a.1 && rv_le b.2.1 b.1) with
  | false => simp only [cond_false]; exact rv_top64 _
  | true =>
    simp only [cond_true]
    rw [Bool.and_eq_true, rv_le_iff, rv_le_iff] at h
    have e1 : a.1 = x.toInt := by omega
    have e2 : b.1 = y.toInt := by omega
    rw [e1, e2, Int64.ofInt_toInt, Int64.ofInt_toInt]
    exact ⟨Int.le_refl _, Int.le_refl _⟩
def rv_lopc (i : Instr) : Option Nat := match i with
  | .ladd => some 0
  | .lsub => some 1
  | .lmul => some 2
  | .ldiv => some 3
  | .lrem => some 4
  | .land => some 5
  | .lor => some 6
  | .lxor => some 7
  | _ => none
/-- an int or a long out of one: its own bounds where it is known, else all -/
def rv_un (op : Nat) (x : Int32) : Int32 := match op with
  | 0 => x.toInt8.toInt32
  | 1 => (x.toUInt32 % 65536).toInt32
  | 2 => x.toInt16.toInt32
  | _ => -x
def rv_unb (op : Nat) (a : rv_E) : Int × Int := bif rv_le a.2.1 a.1 then ((rv_un op (Int32.ofInt a.1)).toInt, (rv_un op (Int32.ofInt a.1)).toInt) else bif Nat.beq op 1 && (rv_le 0 a.1 && rv_le a.2.1 255) then (a.1, a.2.1) else match op with
  | 0 => (Int.negSucc 127, Int.ofNat 127)
  | _ => rv_top
theorem rs_i2c : ∀ n : Fin 256, rv_un 1 (Int32.ofInt (n.val : Int)) = Int32.ofInt (n.val : Int) ∧ narrow .char (.int (Int32.ofInt (n.val : Int))) = .int (Int32.ofInt (n.val : Int)) := by decide +kernel
theorem rs_small {z : Int} (h1 : 0 ≤ z) (h2 : z ≤ 255) : rv_un 1 (Int32.ofInt z) = Int32.ofInt z ∧ narrow .char (.int (Int32.ofInt z)) = .int (Int32.ofInt z) := by
  have := rs_i2c ⟨z.toNat, by omega⟩
  rw [show ((⟨z.toNat, by omega⟩ : Fin 256).val : Int) = z by show ((z.toNat : Nat) : Int) = z; omega] at this
  exact this
theorem rv_unb_ok (op : Nat) {a : rv_E} {x : Int32} (h1 : a.1 ≤ x.toInt) (h2 : x.toInt ≤ a.2.1) : (rv_unb op a).1 ≤ (rv_un op x).toInt ∧ (rv_un op x).toInt ≤ (rv_unb op a).2 := by
  unfold rv_unb
  cases h : rv_le a.2.1 a.1 with
  | true =>
    simp only [cond_true]
    rw [rv_le_iff] at h
    have e1 : a.1 = x.toInt := by omega
    rw [e1, Int32.ofInt_toInt]
    exact ⟨Int.le_refl _, Int.le_refl _⟩
  | false =>
    simp only [cond_false]
    cases hsm : (Nat.beq op 1 && (rv_le 0 a.1 && rv_le a.2.1 255)) with
    | true =>
      rw [Bool.and_eq_true, Bool.and_eq_true, rv_le_iff, rv_le_iff] at hsm
      obtain ⟨z1, z2, z3⟩ := hsm
      have z1 := Nat.eq_of_beq_eq_true z1
      subst z1
      simp only [cond_true]
      have e := (rs_small (z := x.toInt) (by omega) (by omega)).1
      rw [Int32.ofInt_toInt] at e
      rw [e]
      exact ⟨h1, h2⟩
    | false =>
    simp only [cond_false]
    match op with
    | 0 =>
      show (Int.negSucc 127) ≤ (x.toInt8.toInt32).toInt ∧ (x.toInt8.toInt32).toInt ≤ Int.ofNat 127
      rw [Int8.toInt_toInt32]
      have q1 := Int8.le_toInt x.toInt8
      have q2 := Int8.toInt_lt x.toInt8
      have e1 : (Int.negSucc 127) = (-128 : Int) := rfl
      have e2 : (Int.ofNat 127) = (127 : Int) := rfl
      rw [e1, e2]
      omega
    | n + 1 => exact rv_top_ok _
def rv_uopc (i : Instr) : Option Nat := match i with
  | .i2b => some 0
  | .i2c => some 1
  | .i2s => some 2
  | .ineg => some 3
  | _ => none
/-- lcmp -/
def rv_lc (a b : rv_E) : Int × Int := bif rv_le (a.2.1 + 1) b.1 then (Int.negSucc 0, Int.negSucc 0) else bif rv_le (b.2.1 + 1) a.1 then (1, 1) else bif rv_le a.2.1 a.1 && (rv_le b.2.1 b.1 && (rv_le a.1 b.1 && rv_le b.1 a.1)) then (0, 0) else (Int.negSucc 0, 1)
section
variable {p : Program} {l : Launch} {e : Env} {R : Room} {s : State} {m : MethodId} {args : Array Value} {below : List Frame} {meth : Method} {c : Code} {Q : State → Prop} {D : va_G} {cl : List vw_C} {A : Nat → Prop} {cy : Nat → ClassId} {nL : Nat} {ρ : rv_Ho}
variable {cc : ByteArray} {own : String} {Ts : List Jvm.Cond} {pc pc' : Nat} {E : List rv_E} {L : List (Nat × rv_V)} {K r : List rv_V} {X : List rv_C} {cn sn : Nat} {g : rv_G} {ls : Array Slot} {H : Heap} {locs : List Loc} {st : Nat → Nat}
theorem rv_o_lbin (Cx : rv_Cx p s m args c cc own nL Ts D cl cy A st) {i : Instr} {op : Nat} (hop : rv_lopc i = some op) (hdg : decode cc pc = .ok (i, 1)) {x y : Nat} {a b : rv_E} (ha : E[x]? = some a) (hb : E[y]? = some b) (h1 : rv_i64 a = true) (h2 : rv_i64 b = true) (h3 : rv_dv op b = true)
    (ok : rv_Ok p l e R s m args below meth c Q D cl A cy nL ρ (pc + 1) (E ++ [((rv_lalu op a b).1, (rv_lalu op a b).2, E.length, 0, [])]) L ((1, E.length) :: r) X cn sn) : rv_Ok p l e R s m args below meth c Q D cl A cy nL ρ pc E L ((1, y) :: (1, x) :: r) X cn sn := by
  obtain ⟨hx, hbb, -⟩ := Cx
  intro g ls H locs RR
  obtain ⟨tx, ax, bx⟩ := rv_i64_ok RR.1 ha h1
  obtain ⟨ty, ay, by2⟩ := rv_i64_ok RR.1 hb h2
  have hr : ∀ a ∈ r, rv_ok E.length X.length a := fun a h => RR.kK a (List.mem_cons_of_mem _ (List.mem_cons_of_mem _ h))
  have hal := rv_lalu_ok op (a := a) (b := b) (x := Int64.ofInt (g.1 x)) (y := Int64.ofInt (g.1 y)) (by rw [tx]; exact ax) (by rw [tx]; exact bx) (by rw [ty]; exact ay) (by rw [ty]; exact by2)
  have k := rv_pushL (pc' := pc + 1) RR hr hal.1 hal.2 ok
  show W p l e R s m args below meth c H locs cn sn Q (F0 m pc ls (.long (Int64.ofInt (g.1 y)) :: .long (Int64.ofInt (g.1 x)) :: r.map (rv_v g)))
  have hne : rv_dv op b = true → (op = 3 ∨ op = 4) → ¬ Int64.ofInt (g.1 y) = 0 := by
    intro hd ho hz
    have hd2 : (rv_le 1 b.1 || rv_le b.2.1 (Int.negSucc 0)) = true := by
      rcases ho with rfl | rfl <;> exact hd
    rw [hz] at ty
    have hz0 : g.1 y = 0 := ty.symm
    rw [Bool.or_eq_true, rv_le_iff, rv_le_iff] at hd2
    have hm : (Int.negSucc 0) = (-1 : Int) := rfl
    rw [hm] at hd2
    omega
  revert k
  cases i <;> first | (cases hop; done) | (have ho := Option.some.inj hop; subst ho; intro k; first | exact lv_ladd hx hbb hdg k | exact lv_lsub hx hbb hdg k | exact lv_lmul hx hbb hdg k | exact lv_ldiv hx hbb hdg (hne h3 (by decide)) k | exact lv_lrem hx hbb hdg (hne h3 (by decide)) k | exact lv_land hx hbb hdg k | exact lv_lor hx hbb hdg k | exact lv_lxor hx hbb hdg k)
theorem rv_o_un (Cx : rv_Cx p s m args c cc own nL Ts D cl cy A st) {i : Instr} {op : Nat} (hop : rv_uopc i = some op) (hdg : decode cc pc = .ok (i, 1)) {x : Nat} {a : rv_E} (ha : E[x]? = some a) (h1 : rv_i32 a = true)
    (ok : rv_Ok p l e R s m args below meth c Q D cl A cy nL ρ (pc + 1) (E ++ [((rv_unb op a).1, (rv_unb op a).2, E.length, 0, [])]) L ((0, E.length) :: r) X cn sn) : rv_Ok p l e R s m args below meth c Q D cl A cy nL ρ pc E L ((0, x) :: r) X cn sn := by
  obtain ⟨hx, hbb, -⟩ := Cx
  intro g ls H locs RR
  obtain ⟨tx, ax, bx⟩ := rv_i32_ok RR.1 ha h1
  have hr : ∀ a ∈ r, rv_ok E.length X.length a := fun a h => RR.kK a (List.mem_cons_of_mem _ h)
  have hal := rv_unb_ok op (a := a) (x := Int32.ofInt (g.1 x)) (by rw [tx]; exact ax) (by rw [tx]; exact bx)
  have k := rv_pushI (pc' := pc + 1) RR hr (rv_own (g := g) hal.1 hal.2) rv_fs_nil ok
  show W p l e R s m args below meth c H locs cn sn Q (F0 m pc ls (.int (Int32.ofInt (g.1 x)) :: r.map (rv_v g)))
  revert k
  cases i <;> first | (cases hop; done) | (have ho := Option.some.inj hop; subst ho; intro k; first | exact lv_i2b hx hbb hdg rfl k | exact lv_i2c hx hbb hdg rfl k | exact lv_i2s hx hbb hdg rfl k | exact lv_ineg hx hbb hdg k)
theorem rv_o_i2l (Cx : rv_Cx p s m args c cc own nL Ts D cl cy A st) (hdg : decode cc pc = .ok (.i2l, 1)) {x : Nat} {a : rv_E} (ha : E[x]? = some a) (h1 : rv_i32 a = true)
    (ok : rv_Ok p l e R s m args below meth c Q D cl A cy nL ρ (pc + 1) (E ++ [(a.1, a.2.1, E.length, 0, [])]) L ((1, E.length) :: r) X cn sn) : rv_Ok p l e R s m args below meth c Q D cl A cy nL ρ pc E L ((0, x) :: r) X cn sn := by
  obtain ⟨hx, hbb, -⟩ := Cx
  intro g ls H locs RR
  obtain ⟨tx, ax, bx⟩ := rv_i32_ok RR.1 ha h1
  have hr : ∀ a ∈ r, rv_ok E.length X.length a := fun a h => RR.kK a (List.mem_cons_of_mem _ h)
  have et : ((Int32.ofInt (g.1 x)).toInt64).toInt = g.1 x := by rw [Int32.toInt_toInt64, tx]
  have k := rv_pushL (pc' := pc + 1) (x := (Int32.ofInt (g.1 x)).toInt64) RR hr (by rw [et]; exact ax) (by rw [et]; exact bx) ok
  exact lv_i2l hx hbb hdg rfl k
def rv_l2i (a : rv_E) : Int × Int := bif rv_le rv_lo a.1 && rv_le a.2.1 rv_hi then (a.1, a.2.1) else rv_top
theorem rv_o_l2i (Cx : rv_Cx p s m args c cc own nL Ts D cl cy A st) (hdg : decode cc pc = .ok (.l2i, 1)) {x : Nat} {a : rv_E} (ha : E[x]? = some a) (h1 : rv_i64 a = true)
    (ok : rv_Ok p l e R s m args below meth c Q D cl A cy nL ρ (pc + 1) (E ++ [((rv_l2i a).1, (rv_l2i a).2, E.length, 0, [])]) L ((0, E.length) :: r) X cn sn) : rv_Ok p l e R s m args below meth c Q D cl A cy nL ρ pc E L ((1, x) :: r) X cn sn := by
  obtain ⟨hx, hbb, -⟩ := Cx
  intro g ls H locs RR
  obtain ⟨tx, ax, bx⟩ := rv_i64_ok RR.1 ha h1
  have hr : ∀ a ∈ r, rv_ok E.length X.length a := fun a h => RR.kK a (List.mem_cons_of_mem _ h)
  have hal : (rv_l2i a).1 ≤ ((Int64.ofInt (g.1 x)).toInt32).toInt ∧ ((Int64.ofInt (g.1 x)).toInt32).toInt ≤ (rv_l2i a).2 := by
    unfold rv_l2i
    cases h : (rv_le rv_lo a.1 && rv_le a.2.1 rv_hi) with
    | false => simp only [cond_false]; exact rv_top_ok _
    | true =>
      simp only [cond_true]
      rw [Bool.and_eq_true, rv_le_iff, rv_le_iff, rv_lo_eq, rv_hi_eq] at h
      rw [Int64.toInt_toInt32, tx, rv_bmod (by omega) (by omega)]
      exact ⟨ax, bx⟩
  have k := rv_pushI (pc' := pc + 1) RR hr (rv_own (g := g) hal.1 hal.2) rv_fs_nil ok
  exact lv_l2i hx hbb hdg rfl k
theorem rv_o_lcmp (Cx : rv_Cx p s m args c cc own nL Ts D cl cy A st) (hdg : decode cc pc = .ok (.lcmp, 1)) {x y : Nat} {a b : rv_E} (ha : E[x]? = some a) (hb : E[y]? = some b) (h1 : rv_i64 a = true) (h2 : rv_i64 b = true)
    (ok : rv_Ok p l e R s m args below meth c Q D cl A cy nL ρ (pc + 1) (E ++ [((rv_lc a b).1, (rv_lc a b).2, E.length, 0, [(7, [E.length, x, y])])]) L ((0, E.length) :: r) X cn sn) : rv_Ok p l e R s m args below meth c Q D cl A cy nL ρ pc E L ((1, y) :: (1, x) :: r) X cn sn := by
  obtain ⟨hx, hbb, -⟩ := Cx
  intro g ls H locs RR
  obtain ⟨tx, ax, bx⟩ := rv_i64_ok RR.1 ha h1
  obtain ⟨ty, ay, by2⟩ := rv_i64_ok RR.1 hb h2
  have hr : ∀ a ∈ r, rv_ok E.length X.length a := fun a h => RR.kK a (List.mem_cons_of_mem _ (List.mem_cons_of_mem _ h))
  have hm : (Int.negSucc 0) = (-1 : Int) := rfl
  have i1 : (1 : Int32).toInt = 1 := by decide
  have i0 : (0 : Int32).toInt = 0 := by decide
  have im : (-1 : Int32).toInt = -1 := by decide
  have hgt : Int64.ofInt (g.1 x) > Int64.ofInt (g.1 y) ↔ g.1 y < g.1 x := by rw [gt_iff_lt, Int64.lt_iff_toInt_lt, tx, ty]
  have heq : Int64.ofInt (g.1 x) = Int64.ofInt (g.1 y) ↔ g.1 x = g.1 y := ⟨fun q => by rw [← tx, ← ty, q], fun q => by rw [q]⟩
  have hv : (g.1 y < g.1 x ∧ (lg_cmp (Int64.ofInt (g.1 x)) (Int64.ofInt (g.1 y))).toInt = 1) ∨ (g.1 x = g.1 y ∧ (lg_cmp (Int64.ofInt (g.1 x)) (Int64.ofInt (g.1 y))).toInt = 0) ∨ (g.1 x < g.1 y ∧ (lg_cmp (Int64.ofInt (g.1 x)) (Int64.ofInt (g.1 y))).toInt = -1) := by
    unfold lg_cmp
    by_cases c1 : Int64.ofInt (g.1 x) > Int64.ofInt (g.1 y)
    · rw [if_pos c1]
      exact Or.inl ⟨hgt.mp c1, i1⟩
    · rw [if_neg c1]
      by_cases c2 : Int64.ofInt (g.1 x) = Int64.ofInt (g.1 y)
      · rw [if_pos c2]
        exact Or.inr (Or.inl ⟨heq.mp c2, i0⟩)
      · rw [if_neg c2]
        refine Or.inr (Or.inr ⟨?_, im⟩)
        have n1 : ¬ g.1 y < g.1 x := fun q => c1 (hgt.mpr q)
        have n2 : ¬ g.1 x = g.1 y := fun q => c2 (heq.mpr q)
        omega
  have hz0 : (lg_cmp (Int64.ofInt (g.1 x)) (Int64.ofInt (g.1 y))).toInt = 0 ↔ g.1 x = g.1 y := by omega
  have hal : (rv_lc a b).1 ≤ (lg_cmp (Int64.ofInt (g.1 x)) (Int64.ofInt (g.1 y))).toInt ∧ (lg_cmp (Int64.ofInt (g.1 x)) (Int64.ofInt (g.1 y))).toInt ≤ (rv_lc a b).2 := by
    generalize (lg_cmp (Int64.ofInt (g.1 x)) (Int64.ofInt (g.1 y))).toInt = z at hv ⊢
    unfold rv_lc
    rw [hm]
    cases d1 : rv_le (a.2.1 + 1) b.1 with
    | true =>
      rw [rv_le_iff] at d1
      simp only [cond_true]
      omega
    | false =>
      simp only [cond_false]
      cases d2 : rv_le (b.2.1 + 1) a.1 with
      | true =>
        rw [rv_le_iff] at d2
        simp only [cond_true]
        omega
      | false =>
        simp only [cond_false]
        cases d3 : (rv_le a.2.1 a.1 && (rv_le b.2.1 b.1 && (rv_le a.1 b.1 && rv_le b.1 a.1))) with
        | true =>
          rw [Bool.and_eq_true, Bool.and_eq_true, Bool.and_eq_true, rv_le_iff, rv_le_iff, rv_le_iff, rv_le_iff] at d3
          simp only [cond_true]
          omega
        | false =>
          simp only [cond_false]
          omega
  refine W.lcmp hx hbb hdg (rv_pushI (pc' := pc + 1) (b := ((rv_lc a b).1, (rv_lc a b).2, E.length, 0, [(7, [E.length, x, y])])) RR hr ⟨hal.1, hal.2, Or.inl ⟨rfl, rfl⟩⟩ (fun q hq => ?_) ok)
  rw [List.mem_singleton.mp hq]
  have hxl : x < E.length := (List.getElem?_eq_some_iff.mp ha).1
  have hyl : y < E.length := (List.getElem?_eq_some_iff.mp hb).1
  refine ⟨fun j hj => ?_, ?_⟩
  · simp only [List.mem_cons, List.not_mem_nil, or_false] at hj
    omega
  · generalize (lg_cmp (Int64.ofInt (g.1 x)) (Int64.ofInt (g.1 y))).toInt = z at hz0 ⊢
    have hag := rv_up_ag g E.length 0 z (fun _ => 0)
    show (rv_up g E.length z (fun _ => 0)).1 E.length = 0 ↔ (rv_up g E.length z (fun _ => 0)).1 x = (rv_up g E.length z (fun _ => 0)).1 y
    rw [rv_up_self, hag.1 x hxl, hag.1 y hyl]
    exact hz0
theorem rv_o_lshl (Cx : rv_Cx p s m args c cc own nL Ts D cl cy A st) (hdg : decode cc pc = .ok (.lshl, 1)) {x y : Nat}
    (ok : rv_Ok p l e R s m args below meth c Q D cl A cy nL ρ (pc + 1) (E ++ [(rv_lo64, rv_hi64, E.length, 0, [])]) L ((1, E.length) :: r) X cn sn) : rv_Ok p l e R s m args below meth c Q D cl A cy nL ρ pc E L ((0, y) :: (1, x) :: r) X cn sn := by
  obtain ⟨hx, hbb, -⟩ := Cx
  intro g ls H locs RR
  have hr : ∀ a ∈ r, rv_ok E.length X.length a := fun a h => RR.kK a (List.mem_cons_of_mem _ (List.mem_cons_of_mem _ h))
  have hb := rv_rngL (Int64.ofInt (g.1 x) <<< ((Int32.ofInt (g.1 y)).toInt64 &&& 63))
  have k := rv_pushL (pc' := pc + 1) (x := Int64.ofInt (g.1 x) <<< ((Int32.ofInt (g.1 y)).toInt64 &&& 63)) RR hr (by rw [rv_lo64_eq]; omega) (by rw [rv_hi64_eq]; omega) ok
  exact lv_lshl hx hbb hdg rfl k
theorem rv_o_dup (Cx : rv_Cx p s m args c cc own nL Ts D cl cy A st) (hdg : decode cc pc = .ok (.dup, 1)) {a : rv_V} (h1 : Nat.beq a.1 1 = false)
    (ok : rv_Ok p l e R s m args below meth c Q D cl A cy nL ρ (pc + 1) E L (a :: a :: r) X cn sn) : rv_Ok p l e R s m args below meth c Q D cl A cy nL ρ pc E L (a :: r) X cn sn := by
  obtain ⟨hx, hbb, -⟩ := Cx
  intro g ls H locs RR
  have hc : (rv_v g a).category = 1 := by
    have q := rv_cat g a
    rw [h1] at q
    rcases lv_cat (rv_v g a) with h | h
    · exact h
    · rw [h] at q; cases q
  refine lv_dup hx hbb hdg hc (ok g ls H locs (RR.sK fun b hb => ?_))
  rcases List.mem_cons.mp hb with h | h
  · rw [h]; exact RR.kK a List.mem_cons_self
  · exact RR.kK b h
theorem rv_o_dup2 (Cx : rv_Cx p s m args c cc own nL Ts D cl cy A st) (hdg : decode cc pc = .ok (.dup2, 1)) {a b : rv_V} (h1 : Nat.beq a.1 1 = false) (h2 : Nat.beq b.1 1 = false)
    (ok : rv_Ok p l e R s m args below meth c Q D cl A cy nL ρ (pc + 1) E L (a :: b :: a :: b :: r) X cn sn) : rv_Ok p l e R s m args below meth c Q D cl A cy nL ρ pc E L (a :: b :: r) X cn sn := by
  obtain ⟨hx, hbb, -⟩ := Cx
  intro g ls H locs RR
  have hc : ∀ v : rv_V, Nat.beq v.1 1 = false → (rv_v g v).category = 1 := by
    intro v hv
    have q := rv_cat g v
    rw [hv] at q
    rcases lv_cat (rv_v g v) with h | h
    · exact h
    · rw [h] at q; cases q
  refine lv_dup2_11 hx hbb hdg (hc a h1) (hc b h2) (ok g ls H locs (RR.sK fun v hv => ?_))
  rcases List.mem_cons.mp hv with h | h
  · rw [h]; exact RR.kK a List.mem_cons_self
  · rcases List.mem_cons.mp h with h | h
    · rw [h]; exact RR.kK b (List.mem_cons_of_mem _ List.mem_cons_self)
    · exact RR.kK v h
theorem rv_o_pop (Cx : rv_Cx p s m args c cc own nL Ts D cl cy A st) (hdg : decode cc pc = .ok (.pop, 1)) {a : rv_V} (h1 : Nat.beq a.1 1 = false)
    (ok : rv_Ok p l e R s m args below meth c Q D cl A cy nL ρ (pc + 1) E L r X cn sn) : rv_Ok p l e R s m args below meth c Q D cl A cy nL ρ pc E L (a :: r) X cn sn := by
  obtain ⟨hx, hbb, -⟩ := Cx
  intro g ls H locs RR
  have hc : (rv_v g a).category = 1 := by
    have q := rv_cat g a
    rw [h1] at q
    rcases lv_cat (rv_v g a) with h | h
    · exact h
    · rw [h] at q; cases q
  exact lv_pop hx hbb hdg hc (ok g ls H locs (RR.sK fun b hb => RR.kK b (List.mem_cons_of_mem _ hb)))
theorem rv_o_goto (Cx : rv_Cx p s m args c cc own nL Ts D cl cy A st) {off : Int} {tgt : Nat} (hdg : decode cc pc = .ok (.goto off, 3)) (ht : (pc : Int) + off = (tgt : Int))
    (ok : rv_Ok p l e R s m args below meth c Q D cl A cy nL ρ tgt E L K X cn sn) : rv_Ok p l e R s m args below meth c Q D cl A cy nL ρ pc E L K X cn sn := fun g ls H locs RR => lv_goto Cx.1 Cx.2.1 hdg ht (ok g ls H locs RR)
end
