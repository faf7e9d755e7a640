/-! symbolic states. A value: (0, id) an int, (1, id) a long, (2, k) the k-th cell, (3, _) null, else a String constant or its bytes. An id's entry: lo, hi, base, off (value = base's value + off), facts. A cell: an object (number of its class, fields), or an array (kind, length, lo, hi, known places, id of its contents). A valuation g: ids as ints, addresses of cells, ids as contents, addresses of constants. -/
abbrev rv_V := Nat × Nat
abbrev rv_E := Int × Int × Nat × Int × List rv_Fc
abbrev rv_Ar := Nat × Nat × Int × Int × List (Nat × Nat) × Nat
abbrev rv_C := (Nat × List rv_V) ⊕ rv_Ar
abbrev rv_G := (Nat → Int) × (Nat → Nat) × (Nat → Nat → Int) × (Nat → Nat)
def rv_z (g : rv_G) (i : Nat) : rv_Z := (g.1 i, g.2.2.1 i)
def rv_v (g : rv_G) (a : rv_V) : Value := match a.1 with
  | 0 => .int (Int32.ofInt (g.1 a.2))
  | 1 => .long (Int64.ofInt (g.1 a.2))
  | 2 => .ref (g.2.1 a.2)
  | 3 => .null
  | _ => .ref (g.2.2.2 a.2)
def rv_tr (t : List (Nat × Nat)) (j : Nat) : Option Nat := match t with
  | [] => none
  | q :: r => bif Nat.beq q.1 j then some q.2 else rv_tr r j
def rv_d (cy : Nat → ClassId) (g : rv_G) (c : rv_C) : va_E := match c with
  | .inl o => .inr (o.1, o.2.map (rv_v g))
  | .inr a => .inl (cy a.1, a.2.1, bif Nat.beq a.1 2 then .inr (.inl (fun j => Int64.ofInt (g.2.2.1 a.2.2.2.2.2 j))) else .inl (fun j => Int32.ofInt (g.2.2.1 a.2.2.2.2.2 j)))
def rv_c (cy : Nat → ClassId) (g : rv_G) (k : Nat) (c : rv_C) : Nat × va_E := (g.2.1 k, rv_d cy g c)
def rv_w (cy : Nat → ClassId) (g : rv_G) (X : List rv_C) : va_W := X.mapIdx (rv_c cy g)
def rv_fs (g : rv_G) (n : Nat) (fs : List rv_Fc) : Prop := ∀ q ∈ fs, (∀ j ∈ q.2, j < n) ∧ rv_Φ q.1 (q.2.map (rv_z g))
def rv_e (g : rv_G) (E : List rv_E) : Prop := ∀ (i : Nat) (e : rv_E), E[i]? = some e → e.1 ≤ g.1 i ∧ g.1 i ≤ e.2.1 ∧ g.1 i = g.1 e.2.2.1 + e.2.2.2.1 ∧ rv_fs g E.length e.2.2.2.2
def rv_a (g : rv_G) (a : rv_Ar) : Prop := ∀ j : Nat, (∀ i, rv_tr a.2.2.2.2.1 j = some i → g.2.2.1 a.2.2.2.2.2 j = g.1 i) ∧ (rv_tr a.2.2.2.2.1 j = none → a.2.2.1 ≤ g.2.2.1 a.2.2.2.2.2 j ∧ g.2.2.1 a.2.2.2.2.2 j ≤ a.2.2.2.1)
def rv_x (g : rv_G) (X : List rv_C) : Prop := ∀ (k : Nat) (a : rv_Ar), X[k]? = some (.inr a) → rv_a g a
def rv_ok (n N : Nat) (a : rv_V) : Prop := (a.1 < 2 → a.2 < n) ∧ (a.1 = 2 → a.2 < N)
def rv_okc (n N : Nat) (c : rv_C) : Prop := match c with
  | .inl o => ∀ a ∈ o.2, rv_ok n N a
  | .inr a => (∀ q ∈ a.2.2.2.2.1, q.2 < n) ∧ a.2.2.2.2.2 < n
def rv_wf (E : List rv_E) (L : List (Nat × rv_V)) (K : List rv_V) (X : List rv_C) : Prop := (∀ e ∈ E, e.2.2.1 < E.length) ∧ (∀ q ∈ L, rv_ok E.length X.length q.2) ∧ (∀ a ∈ K, rv_ok E.length X.length a) ∧ ∀ c ∈ X, rv_okc E.length X.length c
/-- what is held of a valuation: ids, addresses of the first cells, of constants -/
abbrev rv_Ho := List (Nat × rv_Z) × List Nat × (Nat → Nat)
def rv_h (g : rv_G) (ρ : rv_Ho) (n N : Nat) : Prop := (∀ q ∈ ρ.1, q.1 < n ∧ rv_z g q.1 = q.2) ∧ (∀ (k a : Nat), ρ.2.1[k]? = some a → k < N ∧ g.2.1 k = a) ∧ g.2.2.2 = ρ.2.2
def rv_lv (g : rv_G) (L : List (Nat × rv_V)) : List (Nat × Value) := L.map (fun q => (q.1, rv_v g q.2))
/-- a state of the machine is one of the symbolic ones, by g -/
def rv_R (D : va_G) (cl : List vw_C) (A : Nat → Prop) (H0 : Heap) (cy : Nat → ClassId) (nL : Nat) (ρ : rv_Ho) (g : rv_G) (E : List rv_E) (L : List (Nat × rv_V)) (K : List rv_V) (X : List rv_C) (ls : Array Slot) (H : Heap) (locs : List Loc) : Prop :=
  rv_e g E ∧ rv_x g X ∧ rv_wf E L K X ∧ rv_h g ρ E.length X.length ∧ lv_has ls nL (rv_lv g L) ∧ va_P D cl (rv_w cy g X) H ∧ va_D A (rv_w cy g X) ∧ va_S A H0 H locs
/-- two valuations that agree on the first n ids, the first N cells, the constants -/
def rv_ag (g g' : rv_G) (n N : Nat) : Prop := (∀ i, i < n → g'.1 i = g.1 i) ∧ (∀ k, k < N → g'.2.1 k = g.2.1 k) ∧ (∀ i, i < n → g'.2.2.1 i = g.2.2.1 i) ∧ g'.2.2.2 = g.2.2.2
theorem rv_z_ag {g g' : rv_G} {n N : Nat} (h : rv_ag g g' n N) {i : Nat} (hi : i < n) : rv_z g' i = rv_z g i := by
  unfold rv_z
  rw [h.1 i hi, h.2.2.1 i hi]
theorem rv_zs_ag {g g' : rv_G} {n N : Nat} (h : rv_ag g g' n N) {l : List Nat} (hl : ∀ j ∈ l, j < n) : l.map (rv_z g') = l.map (rv_z g) := List.map_congr_left fun j hj => rv_z_ag h (hl j hj)
theorem rv_v_ag {g g' : rv_G} {n N : Nat} (h : rv_ag g g' n N) {a : rv_V} (ha : rv_ok n N a) : rv_v g' a = rv_v g a := by
  obtain ⟨k, i⟩ := a
  match k with
  | 0 => show Value.int (Int32.ofInt (g'.1 i)) = Value.int (Int32.ofInt (g.1 i)); rw [h.1 i (ha.1 (by show _ < 2; omega))]
  | 1 => show Value.long (Int64.ofInt (g'.1 i)) = Value.long (Int64.ofInt (g.1 i)); rw [h.1 i (ha.1 (by show _ < 2; omega))]
  | 2 => show Value.ref (g'.2.1 i) = Value.ref (g.2.1 i); rw [h.2.1 i (ha.2 rfl)]
  | 3 => rfl
  | k + 4 => show Value.ref (g'.2.2.2 i) = Value.ref (g.2.2.2 i); rw [h.2.2.2]
theorem rv_K_ag {g g' : rv_G} {n N : Nat} (h : rv_ag g g' n N) {K : List rv_V} (hK : ∀ a ∈ K, rv_ok n N a) : K.map (rv_v g') = K.map (rv_v g) := List.map_congr_left fun a ha => rv_v_ag h (hK a ha)
theorem rv_L_ag {g g' : rv_G} {n N : Nat} (h : rv_ag g g' n N) {L : List (Nat × rv_V)} (hL : ∀ q ∈ L, rv_ok n N q.2) : rv_lv g' L = rv_lv g L := List.map_congr_left fun q hq => by rw [rv_v_ag h (hL q hq)]
theorem rv_d_ag {cy : Nat → ClassId} {g g' : rv_G} {n N : Nat} (h : rv_ag g g' n N) {c : rv_C} (hc : rv_okc n N c) : rv_d cy g' c = rv_d cy g c := by
  cases c with
  | inl o => show Sum.inr (o.1, o.2.map (rv_v g')) = Sum.inr (o.1, o.2.map (rv_v g)); rw [rv_K_ag h hc]
  | inr a => simp only [rv_d]; rw [h.2.2.1 _ hc.2]
theorem rv_w_at {cy : Nat → ClassId} {g : rv_G} {X : List rv_C} {k : Nat} {c : rv_C} (h : X[k]? = some c) : (rv_w cy g X)[k]? = some (g.2.1 k, rv_d cy g c) := by
  unfold rv_w
  rw [List.getElem?_mapIdx, h]
  rfl
theorem rv_w_len {cy : Nat → ClassId} {g : rv_G} {X : List rv_C} : (rv_w cy g X).length = X.length := List.length_mapIdx
theorem rv_w_ag {cy : Nat → ClassId} {g g' : rv_G} {n : Nat} {X : List rv_C} (h : rv_ag g g' n X.length) (hX : ∀ c ∈ X, rv_okc n X.length c) : rv_w cy g' X = rv_w cy g X := by
  apply List.ext_getElem?
  intro k
  unfold rv_w
  rw [List.getElem?_mapIdx, List.getElem?_mapIdx]
  cases hk : X[k]? with
  | none => rfl
  | some c =>
    have hl : k < X.length := (List.getElem?_eq_some_iff.mp hk).1
    have hc := hX c (List.mem_of_getElem? hk)
    show some (g'.2.1 k, rv_d cy g' c) = some (g.2.1 k, rv_d cy g c)
    rw [h.2.1 k hl, rv_d_ag h hc]
def rv_up (g : rv_G) (n : Nat) (z : Int) (f : Nat → Int) : rv_G := (fun j => if j = n then z else g.1 j, g.2.1, fun j => if j = n then f else g.2.2.1 j, g.2.2.2)
theorem rv_up_ag (g : rv_G) (n N : Nat) (z : Int) (f : Nat → Int) : rv_ag g (rv_up g n z f) n N := ⟨fun i hi => if_neg (Nat.ne_of_lt hi), fun _ _ => rfl, fun i hi => if_neg (Nat.ne_of_lt hi), rfl⟩
theorem rv_up_self (g : rv_G) (n : Nat) (z : Int) (f : Nat → Int) : (rv_up g n z f).1 n = z := if_pos rfl
theorem rv_up_selfc (g : rv_G) (n : Nat) (z : Int) (f : Nat → Int) : (rv_up g n z f).2.2.1 n = f := if_pos rfl
theorem rv_ok_mono {n N n' N' : Nat} (h : n ≤ n') (h2 : N ≤ N') {a : rv_V} (ha : rv_ok n N a) : rv_ok n' N' a := ⟨fun q => Nat.lt_of_lt_of_le (ha.1 q) h, fun q => Nat.lt_of_lt_of_le (ha.2 q) h2⟩
theorem rv_okc_mono {n N n' N' : Nat} (h : n ≤ n') (h2 : N ≤ N') {c : rv_C} (hc : rv_okc n N c) : rv_okc n' N' c := by
  cases c with
  | inl o => exact fun a ha => rv_ok_mono h h2 (hc a ha)
  | inr a => exact ⟨fun q hq => Nat.lt_of_lt_of_le (hc.1 q hq) h, Nat.lt_of_lt_of_le hc.2 h⟩
theorem rv_fs_ag {g g' : rv_G} {n n' N : Nat} (h : rv_ag g g' n N) (hn : n ≤ n') {fs : List rv_Fc} (hf : rv_fs g n fs) : rv_fs g' n' fs := by
  intro q hq
  obtain ⟨h1, h2⟩ := hf q hq
  refine ⟨fun j hj => Nat.lt_of_lt_of_le (h1 j hj) hn, ?_⟩
  rw [rv_zs_ag h h1]
  exact h2
theorem rv_tr_mem {t : List (Nat × Nat)} {j i : Nat} (h : rv_tr t j = some i) : (j, i) ∈ t := by
  induction t with
  | nil => cases h
  | cons q r ih =>
    unfold rv_tr at h
    cases hq : Nat.beq q.1 j with
    | true =>
      rw [hq] at h
      have h1 : q.2 = i := Option.some.inj h
      have h2 : q.1 = j := Nat.eq_of_beq_eq_true hq
      rw [← h1, ← h2]
      exact List.mem_cons_self
    | false =>
      rw [hq] at h
      exact List.mem_cons_of_mem _ (ih h)
theorem rv_a_ag {g g' : rv_G} {n N : Nat} (h : rv_ag g g' n N) {a : rv_Ar} (ho : rv_okc n N (.inr a)) (ha : rv_a g a) : rv_a g' a := by
  intro j
  obtain ⟨q1, q2⟩ := ha j
  rw [h.2.2.1 _ ho.2]
  exact ⟨fun i hi => by rw [q1 i hi, h.1 i (ho.1 _ (rv_tr_mem hi))], q2⟩
section
variable {D : va_G} {cl : List vw_C} {A : Nat → Prop} {H0 : Heap} {cy : Nat → ClassId} {nL : Nat} {ρ : rv_Ho} {g : rv_G} {E : List rv_E} {L : List (Nat × rv_V)} {K : List rv_V} {X : List rv_C} {ls : Array Slot} {H : Heap} {locs : List Loc}
theorem rv_R.sK (R : rv_R D cl A H0 cy nL ρ g E L K X ls H locs) {K' : List rv_V} (h : ∀ a ∈ K', rv_ok E.length X.length a) : rv_R D cl A H0 cy nL ρ g E L K' X ls H locs := ⟨R.1, R.2.1, ⟨R.2.2.1.1, R.2.2.1.2.1, h, R.2.2.1.2.2.2⟩, R.2.2.2⟩
theorem rv_R.kK (R : rv_R D cl A H0 cy nL ρ g E L K X ls H locs) : ∀ a ∈ K, rv_ok E.length X.length a := R.2.2.1.2.2.1
theorem rv_R.fresh (R : rv_R D cl A H0 cy nL ρ g E L K X ls H locs) {z lo hi off : Int} {base : Nat} {f : Nat → Int} {fs : List rv_Fc} (h1 : lo ≤ z) (h2 : z ≤ hi) (hb : (base = E.length ∧ off = 0) ∨ (base < E.length ∧ z = g.1 base + off)) (hf : rv_fs (rv_up g E.length z f) (E.length + 1) fs) : rv_R D cl A H0 cy nL ρ (rv_up g E.length z f) (E ++ [(lo, hi, base, off, fs)]) L K X ls H locs := by
  obtain ⟨he, hx, ⟨w1, w2, w3, w4⟩, hh, hl, hP, hD, hS⟩ := R
  have hag := rv_up_ag g E.length X.length z f
  have hlen : (E ++ [(lo, hi, base, off, fs)]).length = E.length + 1 := by simp
  refine ⟨?_, ?_, ⟨?_, ?_, ?_, ?_⟩, ⟨?_, hh.2⟩, ?_, ?_, ?_, hS⟩
  · intro i e hie0
    rw [hlen]
    by_cases hlt : i < E.length
    · rw [List.getElem?_append_left hlt] at hie0
      obtain ⟨q1, q2, q3, q4⟩ := he i e hie0
      have hbl := w1 e (List.mem_of_getElem? hie0)
      rw [hag.1 i hlt, hag.1 _ hbl]
      exact ⟨q1, q2, q3, rv_fs_ag hag (by omega) q4⟩
    · rw [List.getElem?_append_right (by omega)] at hie0
      have hz : i - E.length < 1 := (List.getElem?_eq_some_iff.mp hie0).1
      have hie : i = E.length := by omega
      subst hie
      rw [Nat.sub_self] at hie0
      have he2 : (lo, hi, base, off, fs) = e := Option.some.inj hie0
      subst he2
      rw [rv_up_self]
      refine ⟨h1, h2, ?_, hf⟩
      rcases hb with ⟨b1, b2⟩ | ⟨b1, b2⟩
      · show z = (rv_up g E.length z f).1 base + off
        rw [b1, rv_up_self, b2]
        omega
      · show z = (rv_up g E.length z f).1 base + off
        rw [hag.1 _ b1]
        exact b2
  · intro k a hk
    exact rv_a_ag hag (w4 _ (List.mem_of_getElem? hk)) (hx k a hk)
  · intro e he2
    rw [hlen]
    rcases List.mem_append.mp he2 with h | h
    · exact Nat.lt_succ_of_lt (w1 e h)
    · rw [List.mem_singleton.mp h]
      show base < E.length + 1
      omega
  · intro q hq
    rw [hlen]
    exact rv_ok_mono (by omega) (Nat.le_refl _) (w2 q hq)
  · intro q hq
    rw [hlen]
    exact rv_ok_mono (by omega) (Nat.le_refl _) (w3 q hq)
  · intro q hq
    rw [hlen]
    exact rv_okc_mono (by omega) (Nat.le_refl _) (w4 q hq)
  · intro q hq
    obtain ⟨q1, q2⟩ := hh.1 q hq
    rw [hlen]
    exact ⟨by omega, by rw [rv_z_ag hag q1]; exact q2⟩
  · rw [rv_L_ag hag w2]; exact hl
  · rw [rv_w_ag hag w4]; exact hP
  · rw [rv_w_ag hag w4]; exact hD
end
