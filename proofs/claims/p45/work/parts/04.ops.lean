/-! one instruction, symbolically; and what that means for the machine -/
abbrev rv_tys (cy : Nat → ClassId) : List (ClassId × FieldType) := [(cy 0, .byte), (cy 1, .int), (cy 2, .long), (cy 3, .boolean)]
/-- the String constants, at st -/
def rs_len : List Nat := [192, 11]
def rs_byt : List (List Int32) := [[112, 101, 114, 115, 111, 110, 32, 32, 112, 97, 99, 101, 32, 32, 32, 32, 99, 111, 105, 110, 115, 32, 32, 32, 111, 118, 101, 114, 32, 32, 32, 32, 115, 97, 121, 32, 32, 32, 32, 32, 116, 111, 32, 32, 32, 32, 32, 32, 108, 105, 101, 32, 32, 32, 32, 32, 98, 114, 105, 100, 103, 101, 32, 32, 98, 101, 97, 114, 115, 32, 32, 32, 109, 101, 110, 100, 115, 32, 32, 32, 114, 111, 111, 109, 32, 32, 32, 32, 108, 111, 110, 103, 32, 32, 32, 32, 116, 111, 108, 108, 32, 32, 32, 32, 116, 117, 114, 110, 115, 32, 32, 32, 100, 114, 97, 119, 32, 32, 32, 32, 111, 114, 32, 32, 32, 32, 32, 32, 97, 110, 100, 32, 32, 32, 32, 32, 110, 111, 116, 32, 32, 32, 32, 32, 115, 116, 101, 112, 115, 32, 32, 32, 119, 111, 114, 100, 115, 32, 32, 32, 108, 105, 101, 115, 32, 32, 32, 32, 109, 97, 110, 121, 32, 32, 32, 32, 108, 101, 110, 103, 116, 104, 32, 32, 109, 105, 110, 117, 116, 101, 32, 32], [59, 40, 41, 60, 62, 61, 43, 45, 42, 47, 37]]
def rs_t0 : String := "person  pace    coins   over    say     to      lie     bridge  bears   mends   room    long    toll    turns   draw    or      and     not     steps   words   lies    many    length  minute  "
def rs_t1 : String := ";()<>=+-*/%"
abbrev rs_P : String := "jdk/internal/util/Preconditions"
def rv_St (cy : Nat → ClassId) (A : Nat → Prop) (s : State) (st : Nat → Nat) : Prop := vk_S 2 rs_len rs_byt (fun i => st (2 * i)) (fun i => st (2 * i + 1)) A s s.heap ∧ vk_R "TalkBridge$Tape" 67 rs_t0 (st 0) s ∧ vk_R "TalkBridge$Tape" 60 rs_t1 (st 2) s ∧ va_Z "java/lang/String" "COMPACT_STRINGS" "Z" (.int 1) A s s.heap ∧ ∃ v : Value, v.category = 1 ∧ va_Z rs_P "SIOOBE_FORMATTER" "Ljava/util/function/BiFunction;" v A s s.heap
def rv_Cx (p : Program) (s : State) (m : MethodId) (args : Array Value) (c : Code) (cc : ByteArray) (own : String) (nL : Nat) (Ts : List Jvm.Cond) (D : va_G) (cl : List vw_C) (cy : Nat → ClassId) (A : Nat → Prop) (st : Nat → Nat) : Prop :=
  p.tables.exec = Jvm.exec ∧ c.code = cc ∧ c.maxLocals = nL ∧ s.vm.findClass own = some m.cls ∧ (∀ w ∈ Ts, w.before args s = true) ∧ va_K D cl (rv_tys cy) s ∧ (∀ q, s.heap.size ≤ q → A q) ∧ rv_St cy A s st
def rv_Ok (p : Program) (l : Launch) (e : Env) (R : Room) (s : State) (m : MethodId) (args : Array Value) (below : List Frame) (meth : Method) (c : Code) (Q : State → Prop) (D : va_G) (cl : List vw_C) (A : Nat → Prop) (cy : Nat → ClassId) (nL : Nat) (ρ : rv_Ho) (pc : Nat) (E : List rv_E) (L : List (Nat × rv_V)) (K : List rv_V) (X : List rv_C) (cn sn : Nat) : Prop :=
  ∀ (g : rv_G) (ls : Array Slot) (H : Heap) (locs : List Loc), rv_R D cl A s.heap cy nL ρ g E L K X ls H locs → W p l e R s m args below meth c H locs cn sn Q (F0 m pc ls (K.map (rv_v g)))
def rv_i32 (e : rv_E) : Bool := rv_le rv_lo e.1 && rv_le e.2.1 rv_hi
def rv_i64 (e : rv_E) : Bool := rv_le rv_lo64 e.1 && rv_le e.2.1 rv_hi64
theorem rv_i32_ok {g : rv_G} {E : List rv_E} {i : Nat} {a : rv_E} (he : rv_e g E) (hi : E[i]? = some a) (h : rv_i32 a = true) : (Int32.ofInt (g.1 i)).toInt = g.1 i ∧ a.1 ≤ g.1 i ∧ g.1 i ≤ a.2.1 := by
  obtain ⟨h1, h2, -⟩ := he i a hi
  unfold rv_i32 at h
  rw [Bool.and_eq_true, rv_le_iff, rv_le_iff] at h
  exact ⟨rv_of32 (Int.le_trans h.1 h1) (Int.le_trans h2 h.2), h1, h2⟩
theorem rv_i64_ok {g : rv_G} {E : List rv_E} {i : Nat} {a : rv_E} (he : rv_e g E) (hi : E[i]? = some a) (h : rv_i64 a = true) : (Int64.ofInt (g.1 i)).toInt = g.1 i ∧ a.1 ≤ g.1 i ∧ g.1 i ≤ a.2.1 := by
  obtain ⟨h1, h2, -⟩ := he i a hi
  unfold rv_i64 at h
  rw [Bool.and_eq_true, rv_le_iff, rv_le_iff] at h
  exact ⟨rv_of64 (Int.le_trans h.1 h1) (Int.le_trans h2 h.2), h1, h2⟩
def rv_ent (op n : Nat) (fs : List rv_Fc) (a b : rv_E) : rv_E :=
  bif Nat.beq op 0 && (rv_le b.2.1 b.1 && (rv_le rv_lo (a.1 + b.1) && rv_le (a.2.1 + b.1) rv_hi)) then ((rv_alu op (a.1, a.2.1) (b.1, b.2.1)).1, (rv_alu op (a.1, a.2.1) (b.1, b.2.1)).2, a.2.2.1, a.2.2.2.1 + b.1, [])
  else bif Nat.beq op 0 && (rv_le a.2.1 a.1 && (rv_le rv_lo (b.1 + a.1) && rv_le (b.2.1 + a.1) rv_hi)) then ((rv_alu op (a.1, a.2.1) (b.1, b.2.1)).1, (rv_alu op (a.1, a.2.1) (b.1, b.2.1)).2, b.2.2.1, b.2.2.2.1 + a.1, [])
  else bif Nat.beq op 1 && (rv_le b.2.1 b.1 && (rv_le rv_lo (a.1 - b.1) && rv_le (a.2.1 - b.1) rv_hi)) then ((rv_alu op (a.1, a.2.1) (b.1, b.2.1)).1, (rv_alu op (a.1, a.2.1) (b.1, b.2.1)).2, a.2.2.1, a.2.2.2.1 - b.1, [])
  else ((rv_alu op (a.1, a.2.1) (b.1, b.2.1)).1, (rv_alu op (a.1, a.2.1) (b.1, b.2.1)).2, n, 0, fs)
theorem rv_ent_fs (op n : Nat) (fs : List rv_Fc) (a b : rv_E) : (rv_ent op n fs a b).2.2.2.2 = [] ∨ (rv_ent op n fs a b).2.2.2.2 = fs := by
  unfold rv_ent
  cases (Nat.beq op 0 && (rv_le b.2.1 b.1 && (rv_le rv_lo (a.1 + b.1) && rv_le (a.2.1 + b.1) rv_hi))) with
  | true => exact Or.inl rfl
  | false =>
    simp only [cond_false]
    cases (Nat.beq op 0 && (rv_le a.2.1 a.1 && (rv_le rv_lo (b.1 + a.1) && rv_le (b.2.1 + a.1) rv_hi))) with
    | true => exact Or.inl rfl
    | false =>
      simp only [cond_false]
      cases (Nat.beq op 1 && (rv_le b.2.1 b.1 && (rv_le rv_lo (a.1 - b.1) && rv_le (a.2.1 - b.1) rv_hi))) with
      | true => exact Or.inl rfl
      | false => exact Or.inr rfl
theorem rv_ent_ok (op : Nat) (fs : List rv_Fc) {g : rv_G} {E : List rv_E} {a b : rv_E} {x y : Int32} (ha1 : a.1 ≤ x.toInt) (ha2 : x.toInt ≤ a.2.1) (ha3 : x.toInt = g.1 a.2.2.1 + a.2.2.2.1) (hb1 : b.1 ≤ y.toInt) (hb2 : y.toInt ≤ b.2.1) (hb3 : y.toInt = g.1 b.2.2.1 + b.2.2.2.1) (la : a.2.2.1 < E.length) (lb : b.2.2.1 < E.length) :
    (rv_ent op E.length fs a b).1 ≤ (rv_f op x y).toInt ∧ (rv_f op x y).toInt ≤ (rv_ent op E.length fs a b).2.1 ∧ (((rv_ent op E.length fs a b).2.2.1 = E.length ∧ (rv_ent op E.length fs a b).2.2.2.1 = 0) ∨ ((rv_ent op E.length fs a b).2.2.1 < E.length ∧ (rv_f op x y).toInt = g.1 (rv_ent op E.length fs a b).2.2.1 + (rv_ent op E.length fs a b).2.2.2.1)) := by
  have hal := rv_alu_ok op (a := (a.1, a.2.1)) (b := (b.1, b.2.1)) ha1 ha2 hb1 hb2
  unfold rv_ent
  cases h1 : (Nat.beq op 0 && (rv_le b.2.1 b.1 && (rv_le rv_lo (a.1 + b.1) && rv_le (a.2.1 + b.1) rv_hi))) with
  | true =>
    simp only [cond_true]
    rw [Bool.and_eq_true, Bool.and_eq_true, Bool.and_eq_true, rv_le_iff, rv_le_iff, rv_le_iff, rv_lo_eq, rv_hi_eq] at h1
    have ho : op = 0 := Nat.eq_of_beq_eq_true h1.1
    subst ho
    refine ⟨hal.1, hal.2, Or.inr ⟨la, ?_⟩⟩
    show (x + y).toInt = _
    rw [Int32.toInt_add, rv_bmod (by omega) (by omega)]
    omega
  | false =>
    simp only [cond_false]
    cases h2 : (Nat.beq op 0 && (rv_le a.2.1 a.1 && (rv_le rv_lo (b.1 + a.1) && rv_le (b.2.1 + a.1) rv_hi))) with
    | true =>
      simp only [cond_true]
      rw [Bool.and_eq_true, Bool.and_eq_true, Bool.and_eq_true, rv_le_iff, rv_le_iff, rv_le_iff, rv_lo_eq, rv_hi_eq] at h2
      have ho : op = 0 := Nat.eq_of_beq_eq_true h2.1
      subst ho
      refine ⟨hal.1, hal.2, Or.inr ⟨lb, ?_⟩⟩
      show (x + y).toInt = _
      rw [Int32.toInt_add, rv_bmod (by omega) (by omega)]
      omega
    | false =>
      simp only [cond_false]
      cases h3 : (Nat.beq op 1 && (rv_le b.2.1 b.1 && (rv_le rv_lo (a.1 - b.1) && rv_le (a.2.1 - b.1) rv_hi))) with
      | true =>
        simp only [cond_true]
        rw [Bool.and_eq_true, Bool.and_eq_true, Bool.and_eq_true, rv_le_iff, rv_le_iff, rv_le_iff, rv_lo_eq, rv_hi_eq] at h3
        have ho : op = 1 := Nat.eq_of_beq_eq_true h3.1
        subst ho
        refine ⟨hal.1, hal.2, Or.inr ⟨la, ?_⟩⟩
        show (x - y).toInt = _
        rw [Int32.toInt_sub, rv_bmod (by omega) (by omega)]
        omega
      | false =>
        simp only [cond_false]
        exact ⟨hal.1, hal.2, Or.inl ⟨by trivial, by trivial⟩⟩
def rv_opc (i : Instr) : Option Nat := match i with
  | .iadd => some 0
  | .isub => some 1
  | .imul => some 2
  | .idiv => some 3
  | .irem => some 4
  | .iand => some 5
  | .ior => some 6
  | .ixor => some 7
  | .ishl => some 8
  | .ishr => some 9
  | .iushr => some 10
  | _ => none
def rv_dv (op : Nat) (b : rv_E) : Bool := bif Nat.beq op 3 || Nat.beq op 4 then rv_le 1 b.1 || rv_le b.2.1 (Int.negSucc 0) else true
def rv_cut (E : List rv_E) (i : Nat) (lo hi : Int) : Option (List rv_E) := match E[i]? with
  | some e => bif rv_le (rv_max e.1 lo) (rv_min e.2.1 hi) then some (E.set i (rv_max e.1 lo, rv_min e.2.1 hi, e.2.2)) else none
  | none => none
def rv_cmp (op : Nat) (E : List rv_E) (x y : Nat) : Option (List rv_E) := match E[x]?, E[y]? with
  | some a, some b => match op with
    | 0 => (rv_cut E x a.1 (b.2.1 - 1)).bind (fun E2 => rv_cut E2 y (a.1 + 1) b.2.1)
    | 1 => (rv_cut E x a.1 b.2.1).bind (fun E2 => rv_cut E2 y a.1 b.2.1)
    | 2 => (rv_cut E x b.1 b.2.1).bind (fun E2 => rv_cut E2 y a.1 a.2.1)
    | _ => bif rv_le b.2.1 b.1 && rv_le b.1 a.1 then rv_cut E x (b.1 + 1) rv_hi else bif rv_le b.2.1 b.1 && rv_le a.2.1 b.1 then rv_cut E x rv_lo (b.1 - 1) else some E
  | _, _ => none
def rv_rel (op : Nat) (u v : Int) : Prop := match op with
  | 0 => u < v
  | 1 => u ≤ v
  | 2 => u = v
  | _ => u ≠ v
section
variable {D : va_G} {cl : List vw_C} {A : Nat → Prop} {H0 : Heap} {cy : Nat → ClassId} {nL : Nat} {ρ : rv_Ho} {g : rv_G} {E : List rv_E} {L : List (Nat × rv_V)} {K : List rv_V} {X : List rv_C} {ls : Array Slot} {H : Heap} {locs : List Loc}
theorem rv_R.cut (R : rv_R D cl A H0 cy nL ρ g E L K X ls H locs) {i : Nat} {lo hi : Int} (hi0 : i < E.length) (h1 : lo ≤ g.1 i) (h2 : g.1 i ≤ hi) : ∃ E', rv_cut E i lo hi = some E' ∧ E'.length = E.length ∧ rv_R D cl A H0 cy nL ρ g E' L K X ls H locs := by
  obtain ⟨he, hx, ⟨w1, w2, w3, w4⟩, hh, hl, hP, hD, hS⟩ := R
  have hget : E[i]? = some E[i] := List.getElem?_eq_getElem hi0
  obtain ⟨q1, q2, q3⟩ := he i _ hget
  have hm1 : rv_max E[i].1 lo ≤ g.1 i := rv_max_le.mpr ⟨q1, h1⟩
  have hm2 : g.1 i ≤ rv_min E[i].2.1 hi := rv_min_le.mpr ⟨q2, h2⟩
  have hc : rv_le (rv_max E[i].1 lo) (rv_min E[i].2.1 hi) = true := (rv_le_iff _ _).mpr (Int.le_trans hm1 hm2)
  refine ⟨E.set i (rv_max E[i].1 lo, rv_min E[i].2.1 hi, E[i].2.2), ?_, List.length_set, ?_⟩
  · unfold rv_cut
    rw [hget]
    simp only [hc, cond_true]
  · have hlen : (E.set i (rv_max E[i].1 lo, rv_min E[i].2.1 hi, E[i].2.2)).length = E.length := List.length_set
    refine ⟨?_, hx, ⟨?_, ?_, ?_, ?_⟩, ?_, hl, hP, hD, hS⟩
    · intro j e hj
      rw [hlen]
      by_cases hji : j = i
      · subst hji
        rw [List.getElem?_set_self hi0] at hj
        have he2 := Option.some.inj hj
        subst he2
        exact ⟨hm1, hm2, q3⟩
      · rw [List.getElem?_set_ne (Ne.symm hji)] at hj
        exact he j e hj
    · intro e hm
      rw [hlen]
      rcases List.mem_or_eq_of_mem_set hm with h | h
      · exact w1 e h
      · rw [h]
        exact w1 E[i] (List.getElem_mem hi0)
    · rw [hlen]; exact w2
    · rw [hlen]; exact w3
    · rw [hlen]; exact w4
    · rw [hlen]; exact hh
theorem rv_R.cmp (R : rv_R D cl A H0 cy nL ρ g E L K X ls H locs) {x y : Nat} (hx : x < E.length) (hy : y < E.length) (op : Nat) (h : rv_rel op (g.1 x) (g.1 y)) (ax : rv_lo ≤ g.1 x) (bx : g.1 x ≤ rv_hi) : ∃ E', rv_cmp op E x y = some E' ∧ E'.length = E.length ∧ rv_R D cl A H0 cy nL ρ g E' L K X ls H locs := by
  have hgx : E[x]? = some E[x] := List.getElem?_eq_getElem hx
  have hgy : E[y]? = some E[y] := List.getElem?_eq_getElem hy
  obtain ⟨a1, a2, -⟩ := R.1 x _ hgx
  obtain ⟨b1, b2, -⟩ := R.1 y _ hgy
  unfold rv_cmp
  rw [hgx, hgy]
  match op, h with
  | 0, h =>
    have h : g.1 x < g.1 y := h
    obtain ⟨E1, e1, l1, R1⟩ := R.cut hx (lo := E[x].1) (hi := E[y].2.1 - 1) (by omega) (by omega)
    obtain ⟨E2, e2, l2, R2⟩ := R1.cut (i := y) (lo := E[x].1 + 1) (hi := E[y].2.1) (by omega) (by omega) (by omega)
    exact ⟨E2, by simp only [e1, Option.bind_some]; exact e2, by omega, R2⟩
  | 1, h =>
    have h : g.1 x ≤ g.1 y := h
    obtain ⟨E1, e1, l1, R1⟩ := R.cut hx (lo := E[x].1) (hi := E[y].2.1) (by omega) (by omega)
    obtain ⟨E2, e2, l2, R2⟩ := R1.cut (i := y) (lo := E[x].1) (hi := E[y].2.1) (by omega) (by omega) (by omega)
    exact ⟨E2, by simp only [e1, Option.bind_some]; exact e2, by omega, R2⟩
  | 2, h =>
    have h : g.1 x = g.1 y := h
    obtain ⟨E1, e1, l1, R1⟩ := R.cut hx (lo := E[y].1) (hi := E[y].2.1) (by omega) (by omega)
    obtain ⟨E2, e2, l2, R2⟩ := R1.cut (i := y) (lo := E[x].1) (hi := E[x].2.1) (by omega) (by omega) (by omega)
    exact ⟨E2, by simp only [e1, Option.bind_some]; exact e2, by omega, R2⟩
  | n + 3, h =>
    have h : g.1 x ≠ g.1 y := h
    dsimp only
    cases c1 : (rv_le E[y].2.1 E[y].1 && rv_le E[y].1 E[x].1) with
    | true =>
      simp only [cond_true]
      rw [Bool.and_eq_true, rv_le_iff, rv_le_iff] at c1
      exact R.cut hx (by omega) bx
    | false =>
      simp only [cond_false]
      cases c2 : (rv_le E[y].2.1 E[y].1 && rv_le E[x].2.1 E[y].1) with
      | true =>
        simp only [cond_true]
        rw [Bool.and_eq_true, rv_le_iff, rv_le_iff] at c2
        exact R.cut hx ax (by omega)
      | false => simp only [cond_false]; exact ⟨E, rfl, rfl, R⟩
theorem rv_R.cmp2 (R : rv_R D cl A H0 cy nL ρ g E L K X ls H locs) {x y : Nat} (hx : x < E.length) (hy : y < E.length) (h : g.1 x = g.1 y) : ∃ E', rv_cmp 2 E x y = some E' ∧ E'.length = E.length ∧ rv_R D cl A H0 cy nL ρ g E' L K X ls H locs := by
  have hgx : E[x]? = some E[x] := List.getElem?_eq_getElem hx
  have hgy : E[y]? = some E[y] := List.getElem?_eq_getElem hy
  obtain ⟨a1, a2, -⟩ := R.1 x _ hgx
  obtain ⟨b1, b2, -⟩ := R.1 y _ hgy
  unfold rv_cmp
  rw [hgx, hgy]
  obtain ⟨E1, e1, l1, R1⟩ := R.cut hx (lo := E[y].1) (hi := E[y].2.1) (by omega) (by omega)
  obtain ⟨E2, e2, l2, R2⟩ := R1.cut (i := y) (lo := E[x].1) (hi := E[x].2.1) (by omega) (by omega) (by omega)
  exact ⟨E2, by simp only [e1, Option.bind_some]; exact e2, by omega, R2⟩
end
