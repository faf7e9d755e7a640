/-! rows: fields, arrays -/
abbrev rv_Fd := Nat × Nat × Nat × Nat × Bool
def rv_tc (t : FieldType) : Nat := match t with
  | .int => 0
  | .boolean => 1
  | .long => 2
  | .object _ => 3
  | .array _ => 3
  | _ => 9
/-- a field's entry: its number in the pool, the class's number, the field's, its type's, is it final -/
def rv_F1 (own : String) (Ts : List Jvm.Cond) (cl : List vw_C) (q : rv_Fd) : Prop := ∃ (C : String) (T : u_T) (N : Nat) (ty0 : Nat → FieldType), cl[q.2.1]? = some (C, T, N) ∧ q.2.2.1 < N ∧ (∀ w ∈ u_ws C T N, w ∈ Ts) ∧ (∀ k, k < N → parseFieldDescriptor (T k).2.2.1 = some (ty0 k)) ∧ (∀ a, a < N → ∀ b, b < N → a ≠ b → (T a).2.1 ≠ (T b).2.1) ∧ Jvm.Cond.fieldLink own q.1 (T q.2.2.1).1 (T q.2.2.1).2.1 (T q.2.2.1).2.2.1 ∈ Ts ∧ (q.2.2.2.1 = 7 ∨ ((T q.2.2.1).2.2.2 = q.2.2.2.2 ∧ rv_tc (ty0 q.2.2.1) = q.2.2.2.1 ∧ (q.2.2.2.2 = true → (T q.2.2.1).1 = own)))
def rv_in01 (E : List rv_E) (i : Nat) : Bool := match E[i]? with
  | some e => rv_le 0 e.1 && rv_le e.2.1 1
  | none => false
def rv_fit (E : List rv_E) (tc : Nat) (a : rv_V) : Bool := match tc with
  | 0 => Nat.beq a.1 0
  | 1 => Nat.beq a.1 0 && rv_in01 E a.2
  | 2 => Nat.beq a.1 1
  | 3 => Nat.beq a.1 2 || Nat.beq a.1 3
  | _ => false
theorem rv_01 {z : Int} (h1 : 0 ≤ z) (h2 : z ≤ 1) : Int32.ofInt z = 0 ∨ Int32.ofInt z = 1 := by
  rcases (show z = 0 ∨ z = 1 by omega) with h | h <;> subst h
  · exact Or.inl (by decide)
  · exact Or.inr (by decide)
theorem rv_fit_ok {g : rv_G} {E : List rv_E} (he : rv_e g E) {a : rv_V} {t : FieldType} (h : rv_fit E (rv_tc t) a = true) : narrow t (rv_v g a) = rv_v g a ∧ fits t (rv_v g a) = true := by
  obtain ⟨k, i⟩ := a
  have b0 : ∀ {n : Nat}, Nat.beq k n = true → k = n := fun q => Nat.eq_of_beq_eq_true q
  cases t <;> first
    | (have hk : k = 0 := b0 h; subst hk; exact ⟨rfl, rfl⟩)
    | (have hk : k = 1 := b0 h; subst hk; exact ⟨rfl, rfl⟩)
    | (cases h; done)
    | (have h' : (Nat.beq k 2 || Nat.beq k 3) = true := h
       rw [Bool.or_eq_true] at h'
       rcases h' with q | q <;> (have hk := b0 q; subst hk; exact ⟨rfl, rfl⟩))
    | (have h' : (Nat.beq k 0 && rv_in01 E i) = true := h
       rw [Bool.and_eq_true] at h'
       have hk : k = 0 := b0 h'.1
       subst hk
       have h2 := h'.2
       unfold rv_in01 at h2
       cases hE : E[i]? with
       | none => rw [hE] at h2; cases h2
       | some ee =>
         rw [hE] at h2
         have h2 : (rv_le 0 ee.1 && rv_le ee.2.1 1) = true := h2
         rw [Bool.and_eq_true, rv_le_iff, rv_le_iff] at h2
         obtain ⟨q1, q2, -⟩ := he i ee hE
         have hv : rv_v g (0, i) = .int (Int32.ofInt (g.1 i)) := rfl
         rw [hv]
         rcases rv_01 (z := g.1 i) (by omega) (by omega) with q | q <;> rw [q] <;> decide)
theorem rv_w_set {cy : Nat → ClassId} {g : rv_G} {X : List rv_C} {q : Nat} {cd : rv_C} : rv_w cy g (X.set q cd) = (rv_w cy g X).set q (rv_c cy g q cd) := by
  unfold rv_w
  exact List.mapIdx_set
/-- hull of an array's contents -/
def rv_hull (E : List rv_E) (b : Int × Int) (t : List (Nat × Nat)) : Option (Int × Int) := match t with
  | [] => some b
  | q :: r => match E[q.2]?, rv_hull E b r with
    | some e, some h => some (rv_min e.1 h.1, rv_max e.2.1 h.2)
    | _, _ => none
theorem rv_hull_ok {g : rv_G} {E : List rv_E} (he : rv_e g E) {b h : Int × Int} : ∀ {t : List (Nat × Nat)}, rv_hull E b t = some h → h.1 ≤ b.1 ∧ b.2 ≤ h.2 ∧ ∀ q ∈ t, h.1 ≤ g.1 q.2 ∧ g.1 q.2 ≤ h.2
  | [], hh => by
    have hh : b = h := Option.some.inj hh
    subst hh
    exact ⟨Int.le_refl _, Int.le_refl _, fun q hq => by cases hq⟩
  | q :: r, hh => by
    unfold rv_hull at hh
    cases hE : E[q.2]? with
    | none => rw [hE] at hh; cases hh
    | some ee =>
      cases hr : rv_hull E b r with
      | none => rw [hE, hr] at hh; cases hh
      | some h0 =>
        rw [hE, hr] at hh
        have hh : (rv_min ee.1 h0.1, rv_max ee.2.1 h0.2) = h := Option.some.inj hh
        subst hh
        obtain ⟨i1, i2, i3⟩ := rv_hull_ok he hr
        obtain ⟨q1, q2, -⟩ := he q.2 ee hE
        have m1 := rv_min_or ee.1 h0.1
        have m2 := rv_max_or ee.2.1 h0.2
        refine ⟨by show rv_min ee.1 h0.1 ≤ _; omega, by show _ ≤ rv_max ee.2.1 h0.2; omega, fun z hz => ?_⟩
        show rv_min ee.1 h0.1 ≤ _ ∧ _ ≤ rv_max ee.2.1 h0.2
        rcases List.mem_cons.mp hz with e1 | e1
        · rw [e1]; omega
        · have := i3 z e1
          omega
theorem rv_hull_all {g : rv_G} {E : List rv_E} (he : rv_e g E) {a : rv_Ar} (ha : rv_a g a) {h : Int × Int} (hh : rv_hull E (a.2.2.1, a.2.2.2.1) a.2.2.2.2.1 = some h) (j : Nat) : h.1 ≤ g.2.2.1 a.2.2.2.2.2 j ∧ g.2.2.1 a.2.2.2.2.2 j ≤ h.2 := by
  obtain ⟨i1, i2, i3⟩ := rv_hull_ok he hh
  obtain ⟨q1, q2⟩ := ha j
  cases hj : rv_tr a.2.2.2.2.1 j with
  | none =>
    have := q2 hj
    dsimp only at i1 i2
    omega
  | some i =>
    rw [q1 i hj]
    exact i3 (j, i) (rv_tr_mem hj)
/-- a read: an id that is known, or bounds -/
def rv_rd (E : List rv_E) (a : rv_Ar) (ei : rv_E) : Option (Nat ⊕ (Int × Int)) := bif rv_le ei.2.1 ei.1 then (match rv_tr a.2.2.2.2.1 ei.1.toNat with
    | some i => some (.inl i)
    | none => some (.inr (a.2.2.1, a.2.2.2.1))) else match rv_hull E (a.2.2.1, a.2.2.2.1) a.2.2.2.2.1 with
    | some h => some (.inr h)
    | none => none
theorem rv_rd_ok {g : rv_G} {E : List rv_E} (he : rv_e g E) {a : rv_Ar} (ha : rv_a g a) {ei : rv_E} {z : Int} (h1 : ei.1 ≤ z) (h2 : z ≤ ei.2.1) {o : Nat ⊕ (Int × Int)} (ho : rv_rd E a ei = some o) : match o with
    | .inl i => g.2.2.1 a.2.2.2.2.2 z.toNat = g.1 i ∧ ∃ j, (j, i) ∈ a.2.2.2.2.1
    | .inr h => h.1 ≤ g.2.2.1 a.2.2.2.2.2 z.toNat ∧ g.2.2.1 a.2.2.2.2.2 z.toNat ≤ h.2 := by
  unfold rv_rd at ho
  cases hs : rv_le ei.2.1 ei.1 with
  | true =>
    rw [hs] at ho
    rw [rv_le_iff] at hs
    have hz : ei.1 = z := by omega
    rw [hz] at ho
    simp only [cond_true] at ho
    cases hj : rv_tr a.2.2.2.2.1 z.toNat with
    | none =>
      rw [hj] at ho
      have ho := Option.some.inj ho
      subst ho
      exact (ha z.toNat).2 hj
    | some i =>
      rw [hj] at ho
      have ho := Option.some.inj ho
      subst ho
      exact ⟨(ha z.toNat).1 i hj, _, rv_tr_mem hj⟩
  | false =>
    rw [hs] at ho
    simp only [cond_false] at ho
    cases hh : rv_hull E (a.2.2.1, a.2.2.2.1) a.2.2.2.2.1 with
    | none => rw [hh] at ho; cases ho
    | some h =>
      rw [hh] at ho
      have ho := Option.some.inj ho
      subst ho
      exact rv_hull_all he ha hh z.toNat
/-- a write: n the id of the new contents -/
def rv_wr (E : List rv_E) (a : rv_Ar) (ei ev : rv_E) (v n : Nat) : Option rv_Ar := bif rv_le ei.2.1 ei.1 then (bif (rv_tr a.2.2.2.2.1 ei.1.toNat).isNone && (rv_le a.2.2.1 ev.1 && (rv_le ev.2.1 a.2.2.2.1 && rv_le a.2.2.2.1 a.2.2.1)) then some (a.1, a.2.1, a.2.2.1, a.2.2.2.1, a.2.2.2.2.1, n) else some (a.1, a.2.1, a.2.2.1, a.2.2.2.1, (ei.1.toNat, v) :: a.2.2.2.2.1.filter (fun q => !(Nat.beq q.1 ei.1.toNat)), n)) else match rv_hull E (a.2.2.1, a.2.2.2.1) a.2.2.2.2.1 with
    | some h => some (a.1, a.2.1, rv_min h.1 ev.1, rv_max h.2 ev.2.1, [], n)
    | none => none
theorem rv_tr_filter {t : List (Nat × Nat)} {j j' : Nat} (h : j' ≠ j) : rv_tr (t.filter (fun q => !(Nat.beq q.1 j))) j' = rv_tr t j' := by
  induction t with
  | nil => rfl
  | cons q r ih =>
    cases hq : Nat.beq q.1 j with
    | true =>
      rw [List.filter_cons_of_neg (by simp [hq])]
      rw [ih]
      have h1 : q.1 = j := Nat.eq_of_beq_eq_true hq
      have h2 : Nat.beq q.1 j' = false := by
        rw [h1]
        cases hz : Nat.beq j j' with
        | false => rfl
        | true => exact absurd (Nat.eq_of_beq_eq_true hz).symm h
      conv => rhs; unfold rv_tr
      rw [h2]
      rfl
    | false =>
      rw [List.filter_cons_of_pos (by simp [hq])]
      unfold rv_tr
      rw [ih]
/-- contents with one place written -/
def rv_wf1 (f : Nat → Int) (z v : Int) : Nat → Int := fun j => if j = z.toNat then v else f j
theorem rv_wr_ok {g : rv_G} {E : List rv_E} (he : rv_e g E) {a a' : rv_Ar} (ha : rv_a g a) {n : Nat} (hpl : ∀ q ∈ a.2.2.2.2.1, q.2 < n) {ei ev : rv_E} {v : Nat} (hv : v < n) {z : Int} (h1 : ei.1 ≤ z) (h2 : z ≤ ei.2.1) (h3 : ev.1 ≤ g.1 v) (h4 : g.1 v ≤ ev.2.1) (ho : rv_wr E a ei ev v n = some a') : rv_a (rv_up g n 0 (rv_wf1 (g.2.2.1 a.2.2.2.2.2) z (g.1 v))) a' ∧ a'.1 = a.1 ∧ a'.2.1 = a.2.1 ∧ (∀ q ∈ a'.2.2.2.2.1, q ∈ a.2.2.2.2.1 ∨ q.2 = v) ∧ a'.2.2.2.2.2 = n := by
  have hself : ∀ j, (rv_up g n 0 (rv_wf1 (g.2.2.1 a.2.2.2.2.2) z (g.1 v))).2.2.1 n j = if j = z.toNat then g.1 v else g.2.2.1 a.2.2.2.2.2 j := fun j => by
    rw [rv_up_selfc]
    rfl
  have hold : ∀ i, i < n → (rv_up g n 0 (rv_wf1 (g.2.2.1 a.2.2.2.2.2) z (g.1 v))).1 i = g.1 i := fun i hi => if_neg (Nat.ne_of_lt hi)
  unfold rv_wr at ho
  cases hs : rv_le ei.2.1 ei.1 with
  | true =>
    rw [hs] at ho
    rw [rv_le_iff] at hs
    have hz : ei.1 = z := by omega
    rw [hz] at ho
    simp only [cond_true] at ho
    cases hc : ((rv_tr a.2.2.2.2.1 z.toNat).isNone && (rv_le a.2.2.1 ev.1 && (rv_le ev.2.1 a.2.2.2.1 && rv_le a.2.2.2.1 a.2.2.1))) with
    | true =>
      rw [hc] at ho
      have ho := Option.some.inj ho
      subst ho
      rw [Bool.and_eq_true, Bool.and_eq_true, Bool.and_eq_true, rv_le_iff, rv_le_iff, rv_le_iff] at hc
      refine ⟨fun j => ?_, rfl, rfl, fun q hq => Or.inl hq, rfl⟩
      show (∀ i, rv_tr a.2.2.2.2.1 j = some i → (rv_up g n 0 _).2.2.1 n j = _) ∧ (rv_tr a.2.2.2.2.1 j = none → a.2.2.1 ≤ (rv_up g n 0 _).2.2.1 n j ∧ (rv_up g n 0 _).2.2.1 n j ≤ a.2.2.2.1)
      rw [hself]
      by_cases hj : j = z.toNat
      · rw [if_pos hj]
        refine ⟨fun i hi => ?_, fun _ => ⟨by omega, by omega⟩⟩
        rw [hj] at hi
        rw [hi] at hc
        cases hc.1
      · rw [if_neg hj]
        obtain ⟨q1, q2⟩ := ha j
        exact ⟨fun i hi => by rw [q1 i hi, hold i (hpl _ (rv_tr_mem hi))], q2⟩
    | false =>
      rw [hc] at ho
      have ho := Option.some.inj ho
      subst ho
      refine ⟨fun j => ?_, rfl, rfl, fun q hq => ?_, rfl⟩
      · show (∀ i, rv_tr ((z.toNat, v) :: a.2.2.2.2.1.filter (fun q => !(Nat.beq q.1 z.toNat))) j = some i → (rv_up g n 0 _).2.2.1 n j = _) ∧ (rv_tr ((z.toNat, v) :: a.2.2.2.2.1.filter (fun q => !(Nat.beq q.1 z.toNat))) j = none → a.2.2.1 ≤ (rv_up g n 0 _).2.2.1 n j ∧ (rv_up g n 0 _).2.2.1 n j ≤ a.2.2.2.1)
        rw [hself]
        by_cases hj : j = z.toNat
        · rw [if_pos hj]
          have ht : rv_tr ((z.toNat, v) :: a.2.2.2.2.1.filter (fun q => !(Nat.beq q.1 z.toNat))) j = some v := by
            unfold rv_tr
            rw [hj]
            have : Nat.beq z.toNat z.toNat = true := Nat.beq_refl _
            simp only [this, cond_true]
          refine ⟨fun i hi => ?_, fun hn => ?_⟩
          · have e1 : some v = some i := ht.symm.trans hi
            rw [← Option.some.inj e1, hold v hv]
          · have e1 : some v = none := ht.symm.trans hn
            cases e1
        · rw [if_neg hj]
          have ht : rv_tr ((z.toNat, v) :: a.2.2.2.2.1.filter (fun q => !(Nat.beq q.1 z.toNat))) j = rv_tr a.2.2.2.2.1 j := by
            conv => lhs; unfold rv_tr
            have : Nat.beq z.toNat j = false := by
              cases hz2 : Nat.beq z.toNat j with
              | false => rfl
              | true => exact absurd (Nat.eq_of_beq_eq_true hz2).symm hj
            simp only [this, cond_false]
            exact rv_tr_filter hj
          rw [ht]
          obtain ⟨q1, q2⟩ := ha j
          exact ⟨fun i hi => by rw [q1 i hi, hold i (hpl _ (rv_tr_mem hi))], q2⟩
      · rcases List.mem_cons.mp hq with e1 | e1
        · exact Or.inr (by rw [e1])
        · exact Or.inl (List.mem_filter.mp e1).1
  | false =>
    rw [hs] at ho
    simp only [cond_false] at ho
    cases hh : rv_hull E (a.2.2.1, a.2.2.2.1) a.2.2.2.2.1 with
    | none => rw [hh] at ho; cases ho
    | some h =>
      rw [hh] at ho
      have ho := Option.some.inj ho
      subst ho
      refine ⟨fun j => ⟨fun i hi => (by cases hi), fun _ => ?_⟩, rfl, rfl, fun q hq => (by cases hq), rfl⟩
      have m1 := rv_min_or h.1 ev.1
      have m2 := rv_max_or h.2 ev.2.1
      have hall := rv_hull_all he ha hh j
      show rv_min h.1 ev.1 ≤ (rv_up g n 0 _).2.2.1 n j ∧ (rv_up g n 0 _).2.2.1 n j ≤ rv_max h.2 ev.2.1
      rw [hself]
      by_cases hj : j = z.toNat
      · rw [if_pos hj]; omega
      · rw [if_neg hj]; omega
def rv_idx (ei : rv_E) (n : Nat) : Bool := rv_le 0 ei.1 && (rv_le (ei.2.1 + 1) (Int.ofNat n) && Nat.ble n 2147483647)
theorem rv_idx_ok {ei : rv_E} {n : Nat} {z : Int} (h : rv_idx ei n = true) (h1 : ei.1 ≤ z) (h2 : z ≤ ei.2.1) : (Int32.ofInt z).toInt = z ∧ vp_in (Int32.ofInt z) n ∧ (Int32.ofInt z).toNatClampNeg = z.toNat := by
  unfold rv_idx at h
  rw [Bool.and_eq_true, Bool.and_eq_true, rv_le_iff, rv_le_iff, Nat.ble_eq] at h
  have hn : Int.ofNat n = (n : Int) := rfl
  rw [hn] at h
  have hz : (Int32.ofInt z).toInt = z := rv_of32 (by rw [rv_lo_eq]; omega) (by rw [rv_hi_eq]; omega)
  refine ⟨hz, vp_in_iff.mpr ⟨by omega, by omega⟩, ?_⟩
  show (Int32.ofInt z).toInt.toNat = _
  rw [hz]
