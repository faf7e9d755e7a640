/-! facts out of facts: rules, tried on demand. A premise: (tag, variables, _, _) a fact; (1000, [v], lo, hi) bounds; (1001, [v, w], k, _): v = w + k. A rule: its conclusion's tag and variables, its premises -/
abbrev rv_Pm := Nat × List Nat × Int × Int
abbrev rv_Rl := Nat × List Nat × List rv_Pm
def rv_pm (val : Nat → rv_Z) (q : rv_Pm) : Prop := match q.1 with
  | 1000 => match q.2.1 with
    | [v] => q.2.2.1 ≤ (val v).1 ∧ (val v).1 ≤ q.2.2.2
    | _ => True
  | 1001 => match q.2.1 with
    | [v, w] => (val v).1 = (val w).1 + q.2.2.1
    | _ => True
  | _ => rv_Φ q.1 (q.2.1.map val)
def rv_RlOk (r : rv_Rl) : Prop := ∀ val : Nat → rv_Z, (∀ q ∈ r.2.2, rv_pm val q) → rv_Φ r.1 (r.2.1.map val)
def rv_sb (s : List (Nat × Nat)) (v : Nat) : Option Nat := rv_tr s v
/-- variables against ids -/
def rv_uni (s : List (Nat × Nat)) (vs is : List Nat) : Option (List (Nat × Nat)) := match vs, is with
  | [], [] => some s
  | v :: vs, i :: is => match rv_tr s v with
    | some j => bif Nat.beq i j then rv_uni s vs is else none
    | none => rv_uni ((v, i) :: s) vs is
  | _, _ => none
def rv_vl (g : rv_G) (s : List (Nat × Nat)) (v : Nat) : rv_Z := match rv_tr s v with
  | some i => rv_z g i
  | none => rv_z g 0
/-- s' says all that s says -/
def rv_ext (s s' : List (Nat × Nat)) : Prop := ∀ v i, rv_tr s v = some i → rv_tr s' v = some i
theorem rv_uni_ok : ∀ {vs is : List Nat} {s s' : List (Nat × Nat)}, rv_uni s vs is = some s' → rv_ext s s' ∧ vs.length = is.length ∧ ∀ (k v : Nat), vs[k]? = some v → ∃ i, is[k]? = some i ∧ rv_tr s' v = some i
  | [], [], s, s', h => by
    have h : s = s' := Option.some.inj h
    subst h
    exact ⟨fun _ _ q => q, rfl, fun k v hk => by cases hk⟩
  | [], _ :: _, _, _, h => by cases h
  | _ :: _, [], _, _, h => by cases h
  | v :: vs, i :: is, s, s', h => by
    unfold rv_uni at h
    cases hv : rv_tr s v with
    | some j =>
      rw [hv] at h
      dsimp only at h
      cases hb : Nat.beq i j with
      | false => rw [hb] at h; cases h
      | true =>
        rw [hb] at h
        have hb := Nat.eq_of_beq_eq_true hb
        subst hb
        obtain ⟨h1, h2, h3⟩ := rv_uni_ok (vs := vs) (is := is) h
        refine ⟨h1, by simp [h2], fun k w hk => ?_⟩
        match k, hk with
        | 0, hk =>
          have hk : v = w := Option.some.inj hk
          subst hk
          exact ⟨i, rfl, h1 v i hv⟩
        | k + 1, hk => exact h3 k w hk
    | none =>
      rw [hv] at h
      dsimp only at h
      obtain ⟨h1, h2, h3⟩ := rv_uni_ok (vs := vs) (is := is) h
      have hx : rv_ext s ((v, i) :: s) := by
        intro w j hw
        unfold rv_tr
        cases hb : Nat.beq v w with
        | true =>
          have hb := Nat.eq_of_beq_eq_true hb
          subst hb
          rw [hv] at hw
          cases hw
        | false => exact hw
      have hs : rv_tr ((v, i) :: s) v = some i := by
        unfold rv_tr
        have : Nat.beq v v = true := Nat.beq_refl _
        simp only [this, cond_true]
      refine ⟨fun w j hw => h1 w j (hx w j hw), by simp [h2], fun k w hk => ?_⟩
      match k, hk with
      | 0, hk =>
        have hk : v = w := Option.some.inj hk
        subst hk
        exact ⟨i, rfl, h1 v i hs⟩
      | k + 1, hk => exact h3 k w hk
theorem rv_uni_vl {g : rv_G} {vs is : List Nat} {s s' : List (Nat × Nat)} (h : rv_uni s vs is = some s') {s2 : List (Nat × Nat)} (hx : rv_ext s' s2) : vs.map (rv_vl g s2) = is.map (rv_z g) := by
  obtain ⟨-, h2, h3⟩ := rv_uni_ok h
  apply List.ext_getElem?
  intro k
  rw [List.getElem?_map, List.getElem?_map]
  cases hv : vs[k]? with
  | none =>
    have hl : vs.length ≤ k := List.getElem?_eq_none_iff.mp hv
    rw [List.getElem?_eq_none_iff.mpr (by omega)]
    rfl
  | some v =>
    obtain ⟨i, q1, q2⟩ := h3 k v hv
    rw [q1]
    show some (rv_vl g s2 v) = some (rv_z g i)
    unfold rv_vl
    rw [hx v i q2]
/-- all ids of the variables, where they have some -/
def rv_all (s : List (Nat × Nat)) (vs : List Nat) : Option (List Nat) := match vs with
  | [] => some []
  | v :: vs => match rv_tr s v, rv_all s vs with
    | some i, some is => some (i :: is)
    | _, _ => none
theorem rv_all_ok {g : rv_G} {s s2 : List (Nat × Nat)} (hx : rv_ext s s2) : ∀ {vs is : List Nat}, rv_all s vs = some is → vs.map (rv_vl g s2) = is.map (rv_z g)
  | [], is, h => by
    have h : [] = is := Option.some.inj h
    subst h
    rfl
  | v :: vs, is, h => by
    unfold rv_all at h
    cases h1 : rv_tr s v with
    | none => rw [h1] at h; cases h
    | some i =>
      cases h2 : rv_all s vs with
      | none => rw [h1, h2] at h; cases h
      | some js =>
        rw [h1, h2] at h
        have h : i :: js = is := Option.some.inj h
        subst h
        rw [List.map_cons, List.map_cons, rv_all_ok hx h2]
        congr 1
        unfold rv_vl
        rw [hx v i h1]
def rv_bd1 (E : List rv_E) (i : Nat) (lo hi : Int) : Bool := match E[i]? with
  | some e => rv_le lo e.1 && rv_le e.2.1 hi
  | none => false
/-- i = j + k -/
def rv_of1 (E : List rv_E) (i j : Nat) (k : Int) : Bool := match E[i]?, E[j]? with
  | some a, some b => (Nat.beq a.2.2.1 b.2.2.1 && (rv_le a.2.2.2.1 (b.2.2.2.1 + k) && rv_le (b.2.2.2.1 + k) a.2.2.2.1)) || (rv_le a.2.1 a.1 && (rv_le b.2.1 b.1 && (rv_le a.1 (b.1 + k) && rv_le (b.1 + k) a.1)))
  | _, _ => false
theorem rv_bd1_ok {g : rv_G} {E : List rv_E} (he : rv_e g E) {i : Nat} {lo hi : Int} (h : rv_bd1 E i lo hi = true) : lo ≤ g.1 i ∧ g.1 i ≤ hi := by
  unfold rv_bd1 at h
  cases hE : E[i]? with
  | none => rw [hE] at h; cases h
  | some e =>
    rw [hE] at h
    dsimp only at h
    rw [Bool.and_eq_true, rv_le_iff, rv_le_iff] at h
    obtain ⟨q1, q2, -⟩ := he i e hE
    omega
theorem rv_of1_ok {g : rv_G} {E : List rv_E} (he : rv_e g E) {i j : Nat} {k : Int} (h : rv_of1 E i j k = true) : g.1 i = g.1 j + k := by
  unfold rv_of1 at h
  split at h
  · rename_i a b ha hb
    rw [Bool.or_eq_true, Bool.and_eq_true, Bool.and_eq_true, Bool.and_eq_true, Bool.and_eq_true, Bool.and_eq_true, rv_le_iff, rv_le_iff, rv_le_iff, rv_le_iff, rv_le_iff, rv_le_iff] at h
    obtain ⟨a1, a2, a3, -⟩ := he i a ha
    obtain ⟨b1, b2, b3, -⟩ := he j b hb
    rcases h with h | h
    · have h0 := Nat.eq_of_beq_eq_true h.1
      rw [h0] at a3
      omega
    · omega
  · cases h
/-- what bounds and offsets alone say -/
def rv_bi (E : List rv_E) (f : rv_Fc) : Bool := match f with
  | (1, [x, y]) => (match E[x]?, E[y]? with
    | some a, some b => rv_le (a.2.1 + 1) b.1 || (Nat.beq a.2.2.1 b.2.2.1 && rv_le (a.2.2.2.1 + 1) b.2.2.2.1)
    | _, _ => false)
  | (2, [x, y]) => (match E[x]?, E[y]? with
    | some a, some b => rv_le a.2.1 b.1 || (Nat.beq a.2.2.1 b.2.2.1 && rv_le a.2.2.2.1 b.2.2.2.1)
    | _, _ => false)
  | (3, [x, y]) => rv_of1 E x y 0
  | _ => false
theorem rv_bi_ok {g : rv_G} {E : List rv_E} (he : rv_e g E) {f : rv_Fc} (h : rv_bi E f = true) : rv_Φ f.1 (f.2.map (rv_z g)) := by
  unfold rv_bi at h
  split at h
  · rename_i x y
    split at h
    · rename_i a b ha hb
      rw [Bool.or_eq_true, Bool.and_eq_true, rv_le_iff, rv_le_iff] at h
      obtain ⟨a1, a2, a3, -⟩ := he x a ha
      obtain ⟨b1, b2, b3, -⟩ := he y b hb
      show g.1 x < g.1 y
      rcases h with h | h
      · omega
      · rw [Nat.eq_of_beq_eq_true h.1] at a3
        omega
    · cases h
  · rename_i x y
    split at h
    · rename_i a b ha hb
      rw [Bool.or_eq_true, Bool.and_eq_true, rv_le_iff, rv_le_iff] at h
      obtain ⟨a1, a2, a3, -⟩ := he x a ha
      obtain ⟨b1, b2, b3, -⟩ := he y b hb
      show g.1 x ≤ g.1 y
      rcases h with h | h
      · omega
      · rw [Nat.eq_of_beq_eq_true h.1] at a3
        omega
    · cases h
  · rename_i x y
    have := rv_of1_ok he h
    show g.1 x = g.1 y
    omega
  · cases h
def rv_leq (a b : List Nat) : Bool := match a, b with
  | [], [] => true
  | x :: a, y :: b => Nat.beq x y && rv_leq a b
  | _, _ => false
theorem rv_leq_ok : ∀ {a b : List Nat}, rv_leq a b = true → a = b
  | [], [], _ => rfl
  | [], _ :: _, h => by cases h
  | _ :: _, [], h => by cases h
  | x :: a, y :: b, h => by
    unfold rv_leq at h
    rw [Bool.and_eq_true] at h
    rw [Nat.eq_of_beq_eq_true h.1, rv_leq_ok h.2]
def rv_fl (E : List rv_E) : List rv_Fc := match E with
  | [] => []
  | e :: r => match e.2.2.2.2 with
    | [] => rv_fl r
    | fs => fs ++ rv_fl r
theorem rv_fl_mem : ∀ {E : List rv_E} {f : rv_Fc}, f ∈ rv_fl E → ∃ e ∈ E, f ∈ e.2.2.2.2
  | [], f, h => by cases h
  | e :: r, f, h => by
    unfold rv_fl at h
    split at h
    · obtain ⟨e2, h1, h2⟩ := rv_fl_mem h
      exact ⟨e2, List.mem_cons_of_mem _ h1, h2⟩
    · rcases List.mem_append.mp h with h | h
      · exact ⟨e, List.mem_cons_self, h⟩
      · obtain ⟨e2, h1, h2⟩ := rv_fl_mem h
        exact ⟨e2, List.mem_cons_of_mem _ h1, h2⟩
theorem rv_fl_ok {g : rv_G} {E : List rv_E} (he : rv_e g E) {f : rv_Fc} (h : f ∈ rv_fl E) : rv_Φ f.1 (f.2.map (rv_z g)) := by
  obtain ⟨e, h1, h2⟩ := rv_fl_mem h
  obtain ⟨i, hi⟩ := List.getElem?_of_mem h1
  exact ((he i e hi).2.2.2 f h2).2
def rv_try (der : rv_Fc → Bool) (E : List rv_E) (FL : List rv_Fc) (s : List (Nat × Nat)) (ps : List rv_Pm) : Bool := match ps with
  | [] => true
  | (t, vs, lo, hi) :: ps => bif Nat.beq t 1000 then (match rv_all s vs with
      | some [i] => rv_bd1 E i lo hi && rv_try der E FL s ps
      | _ => false) else bif Nat.beq t 1001 then (match rv_all s vs with
      | some [i, j] => rv_of1 E i j lo && rv_try der E FL s ps
      | _ => false) else (FL.any (fun f => Nat.beq f.1 t && (match rv_uni s vs f.2 with
      | some s' => rv_try der E FL s' ps
      | none => false)) || (match rv_all s vs with
      | some is => der (t, is) && rv_try der E FL s ps
      | none => false))
theorem rv_try_ok {g : rv_G} {E : List rv_E} (he : rv_e g E) {der : rv_Fc → Bool} (hder : ∀ f, der f = true → rv_Φ f.1 (f.2.map (rv_z g))) {FL : List rv_Fc} (hFL : ∀ f ∈ FL, rv_Φ f.1 (f.2.map (rv_z g))) : ∀ {ps : List rv_Pm} {s : List (Nat × Nat)}, rv_try der E FL s ps = true → ∃ s2, rv_ext s s2 ∧ ∀ q ∈ ps, rv_pm (rv_vl g s2) q
  | [], s, _ => ⟨s, fun _ _ h => h, fun q hq => by cases hq⟩
  | (t, vs, lo, hi) :: ps, s, h => by
    unfold rv_try at h
    cases t1 : Nat.beq t 1000 with
    | true =>
      simp only [t1, cond_true] at h
      have t1 := Nat.eq_of_beq_eq_true t1
      subst t1
      split at h
      · rename_i i hi2
        rw [Bool.and_eq_true] at h
        obtain ⟨s2, hx, hq⟩ := rv_try_ok he hder hFL h.2
        refine ⟨s2, hx, fun q hq2 => ?_⟩
        rcases List.mem_cons.mp hq2 with e1 | e1
        · rw [e1]
          have e2 := rv_all_ok (g := g) hx hi2
          have e3 := rv_bd1_ok he h.1
          rcases vs with _ | ⟨v, _ | ⟨w, vs⟩⟩
          · simp at e2
          · have e2 : rv_vl g s2 v = rv_z g i := by simpa using e2
            show lo ≤ (rv_vl g s2 v).1 ∧ (rv_vl g s2 v).1 ≤ hi
            rw [e2]
            exact e3
          · simp at e2
        · exact hq q e1
      · cases h
    | false =>
      simp only [t1, cond_false] at h
      cases t2 : Nat.beq t 1001 with
      | true =>
        simp only [t2, cond_true] at h
        have t2 := Nat.eq_of_beq_eq_true t2
        subst t2
        split at h
        · rename_i i j hi2
          rw [Bool.and_eq_true] at h
          obtain ⟨s2, hx, hq⟩ := rv_try_ok he hder hFL h.2
          refine ⟨s2, hx, fun q hq2 => ?_⟩
          rcases List.mem_cons.mp hq2 with e1 | e1
          · rw [e1]
            have e2 := rv_all_ok (g := g) hx hi2
            have e3 := rv_of1_ok he h.1
            rcases vs with _ | ⟨v, _ | ⟨w, _ | ⟨u, vs⟩⟩⟩
            · simp at e2
            · simp at e2
            · have e2 : rv_vl g s2 v = rv_z g i ∧ rv_vl g s2 w = rv_z g j := by simpa using e2
              show (rv_vl g s2 v).1 = (rv_vl g s2 w).1 + lo
              rw [e2.1, e2.2]
              exact e3
            · simp at e2
          · exact hq q e1
        · cases h
      | false =>
        simp only [t2, cond_false] at h
        have hgen : ∀ (val : Nat → rv_Z), rv_Φ t (vs.map val) → rv_pm val (t, vs, lo, hi) := by
          intro val hv
          unfold rv_pm
          split
          · rename_i q; have q : t = 1000 := q; subst q; cases t1
          · rename_i q; have q : t = 1001 := q; subst q; cases t2
          · exact hv
        rw [Bool.or_eq_true] at h
        rcases h with h | h
        · obtain ⟨f, hf, h⟩ := List.any_eq_true.mp h
          rw [Bool.and_eq_true] at h
          obtain ⟨h1, h⟩ := h
          have h1 := Nat.eq_of_beq_eq_true h1
          split at h
          · rename_i s' hu
            obtain ⟨s2, hx, hq⟩ := rv_try_ok he hder hFL h
            have hx0 := (rv_uni_ok hu).1
            refine ⟨s2, fun v i hv => hx v i (hx0 v i hv), fun q hq2 => ?_⟩
            rcases List.mem_cons.mp hq2 with e1 | e1
            · rw [e1]
              apply hgen
              rw [rv_uni_vl hu hx, ← h1]
              exact hFL f hf
            · exact hq q e1
          · cases h
        · split at h
          · rename_i is hi2
            rw [Bool.and_eq_true] at h
            obtain ⟨s2, hx, hq⟩ := rv_try_ok he hder hFL h.2
            refine ⟨s2, hx, fun q hq2 => ?_⟩
            rcases List.mem_cons.mp hq2 with e1 | e1
            · rw [e1]
              apply hgen
              rw [rv_all_ok hx hi2]
              exact hder (t, is) h.1
            · exact hq q e1
          · cases h
def rv_der (RL : List rv_Rl) (E : List rv_E) (FL : List rv_Fc) (fu : Nat) (f : rv_Fc) : Bool := match fu with
  | 0 => rv_bi E f || FL.any (fun q => Nat.beq q.1 f.1 && rv_leq q.2 f.2)
  | n + 1 => rv_bi E f || (FL.any (fun q => Nat.beq q.1 f.1 && rv_leq q.2 f.2) || RL.any (fun r => Nat.beq r.1 f.1 && (match rv_uni [] r.2.1 f.2 with
    | some s => rv_try (rv_der RL E FL n) E FL s r.2.2
    | none => false)))
theorem rv_der_ok {g : rv_G} {E : List rv_E} (he : rv_e g E) {RL : List rv_Rl} (hRL : ∀ r ∈ RL, rv_RlOk r) {FL : List rv_Fc} (hFL : ∀ f ∈ FL, rv_Φ f.1 (f.2.map (rv_z g))) : ∀ (fu : Nat) (f : rv_Fc), rv_der RL E FL fu f = true → rv_Φ f.1 (f.2.map (rv_z g)) := by
  have base : ∀ f : rv_Fc, (FL.any (fun q => Nat.beq q.1 f.1 && rv_leq q.2 f.2)) = true → rv_Φ f.1 (f.2.map (rv_z g)) := by
    intro f h
    obtain ⟨q, hq, h⟩ := List.any_eq_true.mp h
    rw [Bool.and_eq_true] at h
    rw [← Nat.eq_of_beq_eq_true h.1, ← rv_leq_ok h.2]
    exact hFL q hq
  intro fu
  induction fu with
  | zero =>
    intro f h
    unfold rv_der at h
    rw [Bool.or_eq_true] at h
    exact h.elim (rv_bi_ok he) (base f)
  | succ n ih =>
    intro f h
    unfold rv_der at h
    rw [Bool.or_eq_true, Bool.or_eq_true] at h
    rcases h with h | h | h
    · exact rv_bi_ok he h
    · exact base f h
    · obtain ⟨r, hr, h⟩ := List.any_eq_true.mp h
      rw [Bool.and_eq_true] at h
      obtain ⟨h1, h⟩ := h
      split at h
      · rename_i s hu
        obtain ⟨s2, hx, hq⟩ := rv_try_ok he ih hFL h
        have h3 := hRL r hr (rv_vl g s2) hq
        rw [rv_uni_vl hu hx, Nat.eq_of_beq_eq_true h1] at h3
        exact h3
      · cases h
