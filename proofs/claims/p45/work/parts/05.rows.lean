/-! rows: from the successors' Ok to the instruction's -/
section
variable {p : Program} {l : Launch} {e : Env} {R : Room} {s : State} {m : MethodId} {args : Array Value} {below : List Frame} {meth : Method} {c : Code} {Q : State → Prop} {D : va_G} {cl : List vw_C} {A : Nat → Prop} {cy : Nat → ClassId} {nL : Nat} {ρ : rv_Ho}
variable {cc : ByteArray} {own : String} {Ts : List Jvm.Cond} {pc pc' : Nat} {E : List rv_E} {L : List (Nat × rv_V)} {K r : List rv_V} {X : List rv_C} {cn sn : Nat} {g : rv_G} {ls : Array Slot} {H : Heap} {locs : List Loc} {st : Nat → Nat}
theorem rv_fs_nil {g : rv_G} {n : Nat} : rv_fs g n [] := fun q hq => (by cases hq)
theorem rv_push (RR : rv_R D cl A s.heap cy nL ρ g E L K X ls H locs) (hr : ∀ a ∈ r, rv_ok E.length X.length a) {z lo hi off : Int} {base : Nat} {f : Nat → Int} {fs : List rv_Fc} (h1 : lo ≤ z) (h2 : z ≤ hi) (hb : (base = E.length ∧ off = 0) ∨ (base < E.length ∧ z = g.1 base + off)) (hf : rv_fs (rv_up g E.length z f) (E.length + 1) fs) {k : Nat} (hk : k < 2)
    (ok : rv_Ok p l e R s m args below meth c Q D cl A cy nL ρ pc' (E ++ [(lo, hi, base, off, fs)]) L ((k, E.length) :: r) X cn sn) : W p l e R s m args below meth c H locs cn sn Q (F0 m pc' ls (rv_v (rv_up g E.length z f) (k, E.length) :: r.map (rv_v g))) := by
  have R1 := (RR.sK hr).fresh h1 h2 hb hf
  have hlen : (E ++ [(lo, hi, base, off, fs)]).length = E.length + 1 := by simp
  have R2 := R1.sK (K' := (k, E.length) :: r) (fun a ha => by
    rw [hlen]
    rcases List.mem_cons.mp ha with h | h
    · rw [h]
      exact ⟨fun _ => Nat.lt_succ_self _, fun q => by have q : k = 2 := q; omega⟩
    · exact rv_ok_mono (by omega) (Nat.le_refl _) (hr a h))
  have h3 := ok _ ls H locs R2
  rw [List.map_cons, rv_K_ag (rv_up_ag g E.length X.length z f) hr] at h3
  exact h3
theorem rv_pushI (RR : rv_R D cl A s.heap cy nL ρ g E L K X ls H locs) (hr : ∀ a ∈ r, rv_ok E.length X.length a) {x : Int32} {b : rv_E} (h : b.1 ≤ x.toInt ∧ x.toInt ≤ b.2.1 ∧ ((b.2.2.1 = E.length ∧ b.2.2.2.1 = 0) ∨ (b.2.2.1 < E.length ∧ x.toInt = g.1 b.2.2.1 + b.2.2.2.1))) (hf : rv_fs (rv_up g E.length x.toInt (fun _ => 0)) (E.length + 1) b.2.2.2.2)
    (ok : rv_Ok p l e R s m args below meth c Q D cl A cy nL ρ pc' (E ++ [b]) L ((0, E.length) :: r) X cn sn) : W p l e R s m args below meth c H locs cn sn Q (F0 m pc' ls (.int x :: r.map (rv_v g))) := by
  have h3 := rv_push (pc' := pc') RR hr (k := 0) h.1 h.2.1 h.2.2 hf (by decide) ok
  have e0 : rv_v (rv_up g E.length x.toInt (fun _ => 0)) (0, E.length) = .int x := by
    show Value.int (Int32.ofInt ((rv_up g E.length x.toInt (fun _ => 0)).1 E.length)) = _
    rw [rv_up_self, Int32.ofInt_toInt]
  rw [e0] at h3
  exact h3
theorem rv_pushL (RR : rv_R D cl A s.heap cy nL ρ g E L K X ls H locs) (hr : ∀ a ∈ r, rv_ok E.length X.length a) {x : Int64} {lo hi : Int} (h1 : lo ≤ x.toInt) (h2 : x.toInt ≤ hi)
    (ok : rv_Ok p l e R s m args below meth c Q D cl A cy nL ρ pc' (E ++ [(lo, hi, E.length, 0, [])]) L ((1, E.length) :: r) X cn sn) : W p l e R s m args below meth c H locs cn sn Q (F0 m pc' ls (.long x :: r.map (rv_v g))) := by
  have h3 := rv_push (pc' := pc') RR hr (k := 1) (f := fun _ => 0) h1 h2 (Or.inl ⟨rfl, rfl⟩) rv_fs_nil (by decide) ok
  have e0 : rv_v (rv_up g E.length x.toInt (fun _ => 0)) (1, E.length) = .long x := by
    show Value.long (Int64.ofInt ((rv_up g E.length x.toInt (fun _ => 0)).1 E.length)) = _
    rw [rv_up_self, Int64.ofInt_toInt]
  rw [e0] at h3
  exact h3
/-- a new entry of its own, within bounds -/
theorem rv_own {x : Int32} {lo hi : Int} (h1 : lo ≤ x.toInt) (h2 : x.toInt ≤ hi) : ((lo, hi, E.length, 0, []) : rv_E).1 ≤ x.toInt ∧ x.toInt ≤ ((lo, hi, E.length, 0, []) : rv_E).2.1 ∧ ((((lo, hi, E.length, 0, []) : rv_E).2.2.1 = E.length ∧ ((lo, hi, E.length, 0, []) : rv_E).2.2.2.1 = 0) ∨ (((lo, hi, E.length, 0, []) : rv_E).2.2.1 < E.length ∧ x.toInt = g.1 ((lo, hi, E.length, 0, []) : rv_E).2.2.1 + ((lo, hi, E.length, 0, []) : rv_E).2.2.2.1)) := ⟨h1, h2, Or.inl ⟨rfl, rfl⟩⟩
/-- the fact of an int operation holds of its new id -/
theorem rv_ent_fsok (op : Nat) {x y : Nat} (hx : x < E.length) (hy : y < E.length) (a b : rv_E) : rv_fs (rv_up g E.length (rv_f op (Int32.ofInt (g.1 x)) (Int32.ofInt (g.1 y))).toInt (fun _ => 0)) (E.length + 1) (rv_ent op E.length [(rv_tag op, [E.length, x, y])] a b).2.2.2.2 := by
  rcases rv_ent_fs op E.length [(rv_tag op, [E.length, x, y])] a b with h | h
  · rw [h]; exact rv_fs_nil
  · rw [h]
    intro q hq
    rw [List.mem_singleton.mp hq]
    refine ⟨fun j hj => ?_, ?_⟩
    · simp only [List.mem_cons, List.not_mem_nil, or_false] at hj
      omega
    · generalize hz : (rv_f op (Int32.ofInt (g.1 x)) (Int32.ofInt (g.1 y))).toInt = z
      have hag := rv_up_ag g E.length 0 z (fun _ => 0)
      show rv_Φ (rv_tag op) [rv_z _ E.length, rv_z _ x, rv_z _ y]
      apply rv_tag_ok
      show (rv_up g E.length z (fun _ => 0)).1 E.length = (rv_f op (Int32.ofInt ((rv_up g E.length z (fun _ => 0)).1 x)) (Int32.ofInt ((rv_up g E.length z (fun _ => 0)).1 y))).toInt
      rw [rv_up_self, hag.1 x hx, hag.1 y hy, hz]
theorem rv_o_bin (Cx : rv_Cx p s m args c cc own nL Ts D cl cy A st) {i : Instr} {op : Nat} (hop : rv_opc i = some op) (hdg : decode cc pc = .ok (i, 1)) {x y : Nat} {a b : rv_E} (ha : E[x]? = some a) (hb : E[y]? = some b) (h1 : rv_i32 a = true) (h2 : rv_i32 b = true) (h3 : rv_dv op b = true)
    (ok : rv_Ok p l e R s m args below meth c Q D cl A cy nL ρ (pc + 1) (E ++ [rv_ent op E.length [(rv_tag op, [E.length, x, y])] a b]) L ((0, E.length) :: r) X cn sn) : rv_Ok p l e R s m args below meth c Q D cl A cy nL ρ pc E L ((0, y) :: (0, x) :: r) X cn sn := by
  obtain ⟨hx, hbb, -⟩ := Cx
  intro g ls H locs RR
  obtain ⟨tx, ax, bx⟩ := rv_i32_ok RR.1 ha h1
  obtain ⟨ty, ay, by2⟩ := rv_i32_ok RR.1 hb h2
  have hr : ∀ a ∈ r, rv_ok E.length X.length a := fun a h => RR.kK a (List.mem_cons_of_mem _ (List.mem_cons_of_mem _ h))
  have k := rv_pushI (pc' := pc + 1) RR hr (rv_ent_ok op [(rv_tag op, [E.length, x, y])] (g := g) (E := E) (a := a) (b := b) (x := Int32.ofInt (g.1 x)) (y := Int32.ofInt (g.1 y)) (by rw [tx]; exact ax) (by rw [tx]; exact bx) (by rw [tx]; exact (RR.1 x a ha).2.2.1) (by rw [ty]; exact ay) (by rw [ty]; exact by2) (by rw [ty]; exact (RR.1 y b hb).2.2.1) (RR.2.2.1.1 a (List.mem_of_getElem? ha)) (RR.2.2.1.1 b (List.mem_of_getElem? hb))) (rv_ent_fsok op (List.getElem?_eq_some_iff.mp ha).1 (List.getElem?_eq_some_iff.mp hb).1 a b) ok
  show W p l e R s m args below meth c H locs cn sn Q (F0 m pc ls (.int (Int32.ofInt (g.1 y)) :: .int (Int32.ofInt (g.1 x)) :: r.map (rv_v g)))
  have hne : rv_dv op b = true → (op = 3 ∨ op = 4) → ¬ Int32.ofInt (g.1 y) = 0 := by
    intro hd ho hz
    have hd2 : (rv_le 1 b.1 || rv_le b.2.1 (Int.negSucc 0)) = true := by
      rcases ho with rfl | rfl <;> exact hd
    rw [hz] at ty
    have hz0 : g.1 y = 0 := ty.symm
    rw [Bool.or_eq_true, rv_le_iff, rv_le_iff] at hd2
    have hm : (Int.negSucc 0) = (-1 : Int) := rfl
    rw [hm] at hd2
    omega
  revert k
  cases i <;> first | (cases hop; done) | (have ho := Option.some.inj hop; subst ho; intro k; first | exact lv_iadd hx hbb hdg k | exact lv_isub hx hbb hdg k | exact lv_imul hx hbb hdg k | exact lv_idiv hx hbb hdg (hne h3 (by decide)) k | exact lv_irem hx hbb hdg (hne h3 (by decide)) k | exact lv_iand hx hbb hdg k | exact lv_ior hx hbb hdg k | exact lv_ixor hx hbb hdg k | exact lv_ishl hx hbb hdg k | exact lv_ishr hx hbb hdg k | exact lv_iushr hx hbb hdg rfl k)
theorem rv_o_const (Cx : rv_Cx p s m args c cc own nL Ts D cl cy A st) {i : Instr} {len : Nat} {x : Int32} (hrow : ∀ (ls : Array Slot) (rest : List Value) (H : Heap) (locs : List Loc), W p l e R s m args below meth c H locs cn sn Q (F0 m (pc + len) ls (.int x :: rest)) → W p l e R s m args below meth c H locs cn sn Q (F0 m pc ls rest))
    (ok : rv_Ok p l e R s m args below meth c Q D cl A cy nL ρ (pc + len) (E ++ [(x.toInt, x.toInt, E.length, 0, [])]) L ((0, E.length) :: K) X cn sn) : rv_Ok p l e R s m args below meth c Q D cl A cy nL ρ pc E L K X cn sn := by
  intro g ls H locs RR
  exact hrow ls _ H locs (rv_pushI (pc' := pc + len) RR RR.kK (rv_own (Int.le_refl _) (Int.le_refl _)) rv_fs_nil ok)
theorem rv_o_constL (Cx : rv_Cx p s m args c cc own nL Ts D cl cy A st) {len : Nat} {x : Int64} (hrow : ∀ (ls : Array Slot) (rest : List Value) (H : Heap) (locs : List Loc), W p l e R s m args below meth c H locs cn sn Q (F0 m (pc + len) ls (.long x :: rest)) → W p l e R s m args below meth c H locs cn sn Q (F0 m pc ls rest))
    (ok : rv_Ok p l e R s m args below meth c Q D cl A cy nL ρ (pc + len) (E ++ [(x.toInt, x.toInt, E.length, 0, [])]) L ((1, E.length) :: K) X cn sn) : rv_Ok p l e R s m args below meth c Q D cl A cy nL ρ pc E L K X cn sn := by
  intro g ls H locs RR
  exact hrow ls _ H locs (rv_pushL (pc' := pc + len) RR RR.kK (Int.le_refl _) (Int.le_refl _) ok)
def rv_lk (L : List (Nat × rv_V)) (i : Nat) : Option rv_V := match L with
  | [] => none
  | q :: t => bif Nat.beq q.1 i then some q.2 else rv_lk t i
theorem rv_lk_mem {L : List (Nat × rv_V)} {i : Nat} {a : rv_V} (h : rv_lk L i = some a) : (i, a) ∈ L := by
  induction L with
  | nil => cases h
  | cons q t ih =>
    unfold rv_lk at h
    cases hq : Nat.beq q.1 i with
    | true =>
      rw [hq] at h
      have h1 : q.2 = a := Option.some.inj h
      have h2 : q.1 = i := Nat.eq_of_beq_eq_true hq
      rw [← h1, ← h2]
      exact List.mem_cons_self
    | false =>
      rw [hq] at h
      exact List.mem_cons_of_mem _ (ih h)
theorem rv_lk_at {i : Nat} {a : rv_V} (h : rv_lk L i = some a) (hl : lv_has ls nL (rv_lv g L)) : ls[i]? = some (.val (rv_v g a)) :=
  hl.2.2 (i, rv_v g a) (List.mem_map.mpr ⟨(i, a), rv_lk_mem h, rfl⟩)
/-- a load: the value comes onto the stack -/
theorem rv_o_load {len i : Nat} {a : rv_V} (h : rv_lk L i = some a) (hrow : ∀ (g : rv_G) (ls : Array Slot) (rest : List Value) (H : Heap) (locs : List Loc), ls[i]? = some (.val (rv_v g a)) → W p l e R s m args below meth c H locs cn sn Q (F0 m (pc + len) ls (rv_v g a :: rest)) → W p l e R s m args below meth c H locs cn sn Q (F0 m pc ls rest))
    (ok : rv_Ok p l e R s m args below meth c Q D cl A cy nL ρ (pc + len) E L (a :: K) X cn sn) : rv_Ok p l e R s m args below meth c Q D cl A cy nL ρ pc E L K X cn sn := by
  intro g ls H locs RR
  refine hrow g ls _ H locs (rv_lk_at h RR.2.2.2.2.1) (ok g ls H locs (RR.sK fun b hb => ?_))
  rcases List.mem_cons.mp hb with h1 | h1
  · rw [h1]
    exact RR.2.2.1.2.1 (i, a) (rv_lk_mem h)
  · exact RR.kK b h1
def rv_st (L : List (Nat × rv_V)) (i : Nat) (a : rv_V) : List (Nat × rv_V) := (i, a) :: L.filter (fun q => !(q.1 == i) && !(q.1 + 1 == i && Nat.beq q.2.1 1))
def rv_st2 (L : List (Nat × rv_V)) (i : Nat) (a : rv_V) : List (Nat × rv_V) := (i, a) :: L.filter (fun q => !(q.1 == i) && (!(q.1 == i + 1) && !(q.1 + 1 == i && Nat.beq q.2.1 1)))
theorem rv_cat (g : rv_G) (a : rv_V) : ((rv_v g a).category == 2) = Nat.beq a.1 1 := by
  obtain ⟨k, i⟩ := a
  match k with
  | 0 => rfl
  | 1 => rfl
  | 2 => rfl
  | 3 => rfl
  | k + 4 => rfl
theorem rv_st_lv (g : rv_G) (i : Nat) (a : rv_V) : (i, rv_v g a) :: (rv_lv g L).filter (fun q => !(q.1 == i) && !(q.1 + 1 == i && q.2.category == 2)) = rv_lv g (rv_st L i a) := by
  unfold rv_st rv_lv
  rw [List.filter_map, List.map_cons]
  congr 2
  apply List.filter_congr
  intro q _
  show (!(q.1 == i) && !(q.1 + 1 == i && (rv_v g q.2).category == 2)) = _
  rw [rv_cat]
theorem rv_st2_lv (g : rv_G) (i : Nat) (a : rv_V) : (i, rv_v g a) :: (rv_lv g L).filter (fun q => !(q.1 == i) && (!(q.1 == i + 1) && !(q.1 + 1 == i && q.2.category == 2))) = rv_lv g (rv_st2 L i a) := by
  unfold rv_st2 rv_lv
  rw [List.filter_map, List.map_cons]
  congr 2
  apply List.filter_congr
  intro q _
  show (!(q.1 == i) && (!(q.1 == i + 1) && !(q.1 + 1 == i && (rv_v g q.2).category == 2))) = _
  rw [rv_cat]
theorem rv_R.sL (RR : rv_R D cl A s.heap cy nL ρ g E L K X ls H locs) {L' : List (Nat × rv_V)} {ls' : Array Slot} (h : ∀ q ∈ L', rv_ok E.length X.length q.2) (h2 : lv_has ls' nL (rv_lv g L')) : rv_R D cl A s.heap cy nL ρ g E L' K X ls' H locs := ⟨RR.1, RR.2.1, ⟨RR.2.2.1.1, h, RR.2.2.1.2.2⟩, RR.2.2.2.1, h2, RR.2.2.2.2.2⟩
/-- a store of a value of one slot -/
theorem rv_o_store {len i : Nat} {a : rv_V} (hrow : ∀ (g : rv_G) (ls : Array Slot) (rest : List Value) (H : Heap) (locs : List Loc), lv_has ls nL (rv_lv g L) → (∀ ls' : Array Slot, lv_has ls' nL (rv_lv g (rv_st L i a)) → W p l e R s m args below meth c H locs cn sn Q (F0 m (pc + len) ls' rest)) → W p l e R s m args below meth c H locs cn sn Q (F0 m pc ls (rv_v g a :: rest)))
    (ok : rv_Ok p l e R s m args below meth c Q D cl A cy nL ρ (pc + len) E (rv_st L i a) r X cn sn) : rv_Ok p l e R s m args below meth c Q D cl A cy nL ρ pc E L (a :: r) X cn sn := by
  intro g ls H locs RR
  refine hrow g ls _ H locs RR.2.2.2.2.1 (fun ls' hl' => ok g ls' H locs ((RR.sK (K' := r) fun b hb => RR.kK b (List.mem_cons_of_mem _ hb)).sL ?_ hl'))
  intro q hq
  rcases List.mem_cons.mp hq with h1 | h1
  · rw [h1]
    exact RR.kK a List.mem_cons_self
  · exact RR.2.2.1.2.1 q (List.mem_filter.mp h1).1
theorem rv_o_store2 {len i : Nat} {a : rv_V} (hrow : ∀ (g : rv_G) (ls : Array Slot) (rest : List Value) (H : Heap) (locs : List Loc), lv_has ls nL (rv_lv g L) → (∀ ls' : Array Slot, lv_has ls' nL (rv_lv g (rv_st2 L i a)) → W p l e R s m args below meth c H locs cn sn Q (F0 m (pc + len) ls' rest)) → W p l e R s m args below meth c H locs cn sn Q (F0 m pc ls (rv_v g a :: rest)))
    (ok : rv_Ok p l e R s m args below meth c Q D cl A cy nL ρ (pc + len) E (rv_st2 L i a) r X cn sn) : rv_Ok p l e R s m args below meth c Q D cl A cy nL ρ pc E L (a :: r) X cn sn := by
  intro g ls H locs RR
  refine hrow g ls _ H locs RR.2.2.2.2.1 (fun ls' hl' => ok g ls' H locs ((RR.sK (K' := r) fun b hb => RR.kK b (List.mem_cons_of_mem _ hb)).sL ?_ hl'))
  intro q hq
  rcases List.mem_cons.mp hq with h1 | h1
  · rw [h1]
    exact RR.kK a List.mem_cons_self
  · exact RR.2.2.1.2.1 q (List.mem_filter.mp h1).1
/-- iinc -/
theorem rv_o_iinc (Cx : rv_Cx p s m args c cc own nL Ts D cl cy A st) {i x : Nat} {n : Int} {a : rv_E} (hdg : decode cc pc = .ok (.iinc i n, 3)) (h : rv_lk L i = some (0, x)) (ha : E[x]? = some a) (h1 : rv_i32 a = true) (hn : i < nL) (hn0 : rv_le rv_lo n = true) (hn1 : rv_le n rv_hi = true)
    (ok : rv_Ok p l e R s m args below meth c Q D cl A cy nL ρ (pc + 3) (E ++ [rv_ent 0 E.length [] a (n, n, E.length, 0, [])]) (rv_st L i (0, E.length)) K X cn sn) : rv_Ok p l e R s m args below meth c Q D cl A cy nL ρ pc E L K X cn sn := by
  obtain ⟨hx, hbb, -⟩ := Cx
  intro g ls H locs RR
  rw [rv_le_iff] at hn0 hn1
  obtain ⟨tx, ax, bx⟩ := rv_i32_ok RR.1 ha h1
  have tn : (Int32.ofInt n).toInt = n := rv_of32 hn0 hn1
  obtain ⟨v, hv⟩ : ∃ v, v = Int32.ofInt (g.1 x) + Int32.ofInt n := ⟨_, rfl⟩
  obtain ⟨k, hk⟩ := List.getElem?_of_mem (show (i, rv_v g (0, x)) ∈ rv_lv g L from List.mem_map.mpr ⟨(i, (0, x)), rv_lk_mem h, rfl⟩)
  refine lv_iinc (v := v) hx hbb hdg RR.2.2.2.2.1 hk (by rw [hv]) hn rfl (fun ls' hl' => ?_)
  -- the constant as an entry of its own, then dropped: only bounds and base count
  have hent : (rv_ent 0 E.length [] a (n, n, E.length, 0, [])).1 ≤ v.toInt ∧ v.toInt ≤ (rv_ent 0 E.length [] a (n, n, E.length, 0, [])).2.1 ∧ (((rv_ent 0 E.length [] a (n, n, E.length, 0, [])).2.2.1 = E.length ∧ (rv_ent 0 E.length [] a (n, n, E.length, 0, [])).2.2.2.1 = 0) ∨ ((rv_ent 0 E.length [] a (n, n, E.length, 0, [])).2.2.1 < E.length ∧ v.toInt = g.1 (rv_ent 0 E.length [] a (n, n, E.length, 0, [])).2.2.1 + (rv_ent 0 E.length [] a (n, n, E.length, 0, [])).2.2.2.1)) := by
    have la := RR.2.2.1.1 a (List.mem_of_getElem? ha)
    have ea := (RR.1 x a ha).2.2.1
    have hal := rv_alu_ok 0 (a := (a.1, a.2.1)) (b := (n, n)) (x := Int32.ofInt (g.1 x)) (y := Int32.ofInt n) (by rw [tx]; exact ax) (by rw [tx]; exact bx) (by rw [tn]; exact Int.le_refl _) (by rw [tn]; exact Int.le_refl _)
    have hv' : rv_f 0 (Int32.ofInt (g.1 x)) (Int32.ofInt n) = v := hv.symm
    rw [hv'] at hal
    unfold rv_ent
    cases c1 : (Nat.beq 0 0 && (rv_le n n && (rv_le rv_lo (a.1 + n) && rv_le (a.2.1 + n) rv_hi))) with
    | true =>
      simp only [c1, cond_true]
      rw [Bool.and_eq_true, Bool.and_eq_true, Bool.and_eq_true, rv_le_iff, rv_le_iff, rv_le_iff, rv_lo_eq, rv_hi_eq] at c1
      refine ⟨hal.1, hal.2, Or.inr ⟨la, ?_⟩⟩
      rw [hv, Int32.toInt_add, tx, tn, rv_bmod (by omega) (by omega)]
      omega
    | false =>
      simp only [c1, cond_false]
      have hnn : rv_le n n = true := (rv_le_iff n n).mpr (Int.le_refl n)
      cases c2 : (Nat.beq 0 0 && (rv_le a.2.1 a.1 && (rv_le rv_lo (n + a.1) && rv_le (n + a.1) rv_hi))) with
      | true =>
        exfalso
        rw [Bool.and_eq_true, Bool.and_eq_true, Bool.and_eq_true, rv_le_iff, rv_le_iff, rv_le_iff] at c2
        have c3 : (Nat.beq 0 0 && (rv_le n n && (rv_le rv_lo (a.1 + n) && rv_le (a.2.1 + n) rv_hi))) = true := by
          rw [Bool.and_eq_true, Bool.and_eq_true, Bool.and_eq_true, rv_le_iff, rv_le_iff, rv_le_iff]
          refine ⟨rfl, Int.le_refl n, ?_, ?_⟩ <;> omega
        rw [c1] at c3
        cases c3
      | false =>
        simp only [c2, cond_false]
        have c4 : (Nat.beq 0 1 && (rv_le n n && (rv_le rv_lo (a.1 - n) && rv_le (a.2.1 - n) rv_hi))) = false := rfl
        simp only [c4, cond_false]
        exact ⟨hal.1, hal.2, Or.inl ⟨by trivial, by trivial⟩⟩
  have R1 := RR.fresh (f := fun _ => 0) (fs := (rv_ent 0 E.length [] a (n, n, E.length, 0, [])).2.2.2.2) hent.1 hent.2.1 hent.2.2 (by rcases rv_ent_fs 0 E.length [] a (n, n, E.length, 0, []) with q | q <;> rw [q] <;> exact rv_fs_nil)
  have hlen : (E ++ [rv_ent 0 E.length [] a (n, n, E.length, 0, [])]).length = E.length + 1 := by simp
  have hag := rv_up_ag g E.length X.length v.toInt (fun _ => 0)
  have e0 : rv_v (rv_up g E.length v.toInt (fun _ => 0)) (0, E.length) = .int v := by
    show Value.int (Int32.ofInt ((rv_up g E.length v.toInt (fun _ => 0)).1 E.length)) = _
    rw [rv_up_self, Int32.ofInt_toInt]
  have hl2 : lv_has ls' nL (rv_lv (rv_up g E.length v.toInt (fun _ => 0)) (rv_st L i (0, E.length))) := by
    rw [← rv_st_lv, e0, rv_L_ag hag RR.2.2.1.2.1]
    exact hl'
  have R2 := R1.sL (L' := rv_st L i (0, E.length)) (fun q hq => by
    rw [hlen]
    rcases List.mem_cons.mp hq with h1 | h1
    · rw [h1]
      exact ⟨fun _ => Nat.lt_succ_self _, fun q => by cases q⟩
    · exact rv_ok_mono (by omega) (Nat.le_refl _) (RR.2.2.1.2.1 q (List.mem_filter.mp h1).1)) hl2
  have h3 := ok _ ls' H locs R2
  rw [rv_K_ag hag RR.kK] at h3
  exact h3
/-- a test of two ints -/
def rv_ng (cd : Jvm.ClassFile.Cond) : Jvm.ClassFile.Cond := match cd with
  | .eq => .ne
  | .ne => .eq
  | .lt => .ge
  | .ge => .lt
  | .gt => .le
  | .le => .gt
def rv_cT (sp : Bool) (cd : Jvm.ClassFile.Cond) (E : List rv_E) (x y : Nat) : List (List rv_E) := match cd with
  | .eq => (rv_cmp 2 E x y).toList
  | .ne => bif sp then (rv_cmp 0 E x y).toList ++ (rv_cmp 0 E y x).toList else (rv_cmp 3 E x y).toList
  | .lt => (rv_cmp 0 E x y).toList
  | .ge => (rv_cmp 1 E y x).toList
  | .gt => (rv_cmp 0 E y x).toList
  | .le => (rv_cmp 1 E x y).toList
def rv_cr (cd : Jvm.ClassFile.Cond) (u v : Int) : Prop := match cd with
  | .eq => u = v
  | .ne => ¬ u = v
  | .lt => u < v
  | .ge => v ≤ u
  | .gt => v < u
  | .le => u ≤ v
theorem rv_cT_ok (RR : rv_R D cl A s.heap cy nL ρ g E L K X ls H locs) (sp : Bool) (cd : Jvm.ClassFile.Cond) {x y : Nat} {a b : rv_E} (ha : E[x]? = some a) (hb : E[y]? = some b) (h1 : rv_i32 a = true) (h2 : rv_i32 b = true) (h : rv_cr cd (g.1 x) (g.1 y)) : ∃ E' ∈ rv_cT sp cd E x y, E'.length = E.length ∧ rv_R D cl A s.heap cy nL ρ g E' L K X ls H locs := by
  have hx : x < E.length := (List.getElem?_eq_some_iff.mp ha).1
  have hy : y < E.length := (List.getElem?_eq_some_iff.mp hb).1
  unfold rv_i32 at h1 h2
  rw [Bool.and_eq_true, rv_le_iff, rv_le_iff] at h1 h2
  obtain ⟨a1, a2, -⟩ := RR.1 x a ha
  obtain ⟨b1, b2, -⟩ := RR.1 y b hb
  have X1 := Int.le_trans h1.1 a1
  have X2 := Int.le_trans a2 h1.2
  have Y1 := Int.le_trans h2.1 b1
  have Y2 := Int.le_trans b2 h2.2
  have one : ∀ {o : Option (List rv_E)} {P : List rv_E → Prop}, (∃ E', o = some E' ∧ P E') → ∃ E' ∈ o.toList, P E' := fun {o P} ⟨E', q1, q2⟩ => ⟨E', by rw [q1]; exact List.mem_singleton.mpr rfl, q2⟩
  cases cd with
  | eq => exact one (RR.cmp hx hy 2 h X1 X2)
  | ne =>
    cases sp with
    | false => exact one (RR.cmp hx hy 3 h X1 X2)
    | true =>
      have h : ¬ g.1 x = g.1 y := h
      show ∃ E' ∈ (rv_cmp 0 E x y).toList ++ (rv_cmp 0 E y x).toList, _
      rcases (show g.1 x < g.1 y ∨ g.1 y < g.1 x by omega) with q | q
      · obtain ⟨E', m1, m2⟩ := one (RR.cmp hx hy 0 q X1 X2)
        exact ⟨E', List.mem_append_left _ m1, m2⟩
      · obtain ⟨E', m1, m2⟩ := one (RR.cmp hy hx 0 q Y1 Y2)
        exact ⟨E', List.mem_append_right _ m1, m2⟩
  | lt => exact one (RR.cmp hx hy 0 h X1 X2)
  | ge => exact one (RR.cmp hy hx 1 h Y1 Y2)
  | gt => exact one (RR.cmp hy hx 0 h Y1 Y2)
  | le => exact one (RR.cmp hx hy 1 h X1 X2)
/-- what a test's outcome says -/
def rv_cf (cd : Jvm.ClassFile.Cond) (x y : Nat) : rv_Fc := match cd with
  | .eq => (3, [x, y])
  | .ne => (4, [x, y])
  | .lt => (1, [x, y])
  | .ge => (2, [y, x])
  | .gt => (1, [y, x])
  | .le => (2, [x, y])
theorem rv_cf_ok {g : rv_G} {n : Nat} (cd : Jvm.ClassFile.Cond) {x y : Nat} (hx : x < n) (hy : y < n) (h : rv_cr cd (g.1 x) (g.1 y)) : rv_fs g n [rv_cf cd x y] := by
  intro q hq
  rw [List.mem_singleton.mp hq]
  cases cd <;> exact ⟨fun j hj => (by simp only [rv_cf, List.mem_cons, List.not_mem_nil, or_false] at hj; omega), h⟩
theorem rv_o_icmp (Cx : rv_Cx p s m args c cc own nL Ts D cl cy A st) {cd : Jvm.ClassFile.Cond} {off : Int} {tgt : Nat} (hdg : decode cc pc = .ok (.if_icmp cd off, 3)) (ht : (pc : Int) + off = (tgt : Int)) (sp sp' : Bool) {x y : Nat} {a b : rv_E} (ha : E[x]? = some a) (hb : E[y]? = some b) (h1 : rv_i32 a = true) (h2 : rv_i32 b = true)
    (kt : ∀ E' ∈ rv_cT sp cd (E ++ [(0, 0, E.length, 0, [rv_cf cd x y])]) x y, rv_Ok p l e R s m args below meth c Q D cl A cy nL ρ tgt E' L r X cn sn) (kf : ∀ E' ∈ rv_cT sp' (rv_ng cd) (E ++ [(0, 0, E.length, 0, [rv_cf (rv_ng cd) x y])]) x y, rv_Ok p l e R s m args below meth c Q D cl A cy nL ρ (pc + 3) E' L r X cn sn) : rv_Ok p l e R s m args below meth c Q D cl A cy nL ρ pc E L ((0, y) :: (0, x) :: r) X cn sn := by
  obtain ⟨hx, hbb, -⟩ := Cx
  intro g ls H locs RR
  obtain ⟨tx, ax, bx⟩ := rv_i32_ok RR.1 ha h1
  obtain ⟨ty, ay, by2⟩ := rv_i32_ok RR.1 hb h2
  have hr : ∀ a ∈ r, rv_ok E.length X.length a := fun a h => RR.kK a (List.mem_cons_of_mem _ (List.mem_cons_of_mem _ h))
  have hxl : x < E.length := (List.getElem?_eq_some_iff.mp ha).1
  have hyl : y < E.length := (List.getElem?_eq_some_iff.mp hb).1
  have hag := rv_up_ag g E.length X.length 0 (fun _ => 0)
  have gx : (rv_up g E.length 0 (fun _ => 0)).1 x = g.1 x := hag.1 x hxl
  have gy : (rv_up g E.length 0 (fun _ => 0)).1 y = g.1 y := hag.1 y hyl
  have KT : rv_cr cd (g.1 x) (g.1 y) → W p l e R s m args below meth c H locs cn sn Q (F0 m tgt ls (r.map (rv_v g))) := fun h => by
    have R1 := (RR.sK hr).fresh (z := 0) (lo := 0) (hi := 0) (base := E.length) (off := 0) (f := fun _ => 0) (fs := [rv_cf cd x y]) (Int.le_refl _) (Int.le_refl _) (Or.inl ⟨rfl, rfl⟩) (rv_cf_ok cd (by omega) (by omega) (by rw [gx, gy]; exact h))
    obtain ⟨E', m1, -, R'⟩ := rv_cT_ok R1 sp cd (by rw [List.getElem?_append_left hxl]; exact ha) (by rw [List.getElem?_append_left hyl]; exact hb) h1 h2 (by rw [gx, gy]; exact h)
    have h3 := kt E' m1 _ ls H locs R'
    rw [rv_K_ag hag hr] at h3
    exact h3
  have KF : rv_cr (rv_ng cd) (g.1 x) (g.1 y) → W p l e R s m args below meth c H locs cn sn Q (F0 m (pc + 3) ls (r.map (rv_v g))) := fun h => by
    have R1 := (RR.sK hr).fresh (z := 0) (lo := 0) (hi := 0) (base := E.length) (off := 0) (f := fun _ => 0) (fs := [rv_cf (rv_ng cd) x y]) (Int.le_refl _) (Int.le_refl _) (Or.inl ⟨rfl, rfl⟩) (rv_cf_ok (rv_ng cd) (by omega) (by omega) (by rw [gx, gy]; exact h))
    obtain ⟨E', m1, -, R'⟩ := rv_cT_ok R1 sp' (rv_ng cd) (by rw [List.getElem?_append_left hxl]; exact ha) (by rw [List.getElem?_append_left hyl]; exact hb) h1 h2 (by rw [gx, gy]; exact h)
    have h3 := kf E' m1 _ ls H locs R'
    rw [rv_K_ag hag hr] at h3
    exact h3
  have heq : Int32.ofInt (g.1 x) = Int32.ofInt (g.1 y) ↔ g.1 x = g.1 y := ⟨fun q => by rw [← tx, ← ty, q], fun q => by rw [q]⟩
  have hlt : Int32.ofInt (g.1 x) < Int32.ofInt (g.1 y) ↔ g.1 x < g.1 y := by rw [Int32.lt_iff_toInt_lt, tx, ty]
  have hgt : Int32.ofInt (g.1 y) < Int32.ofInt (g.1 x) ↔ g.1 y < g.1 x := by rw [Int32.lt_iff_toInt_lt, tx, ty]
  have hle : Int32.ofInt (g.1 x) ≤ Int32.ofInt (g.1 y) ↔ g.1 x ≤ g.1 y := by rw [Int32.le_iff_toInt_le, tx, ty]
  have hge : Int32.ofInt (g.1 y) ≤ Int32.ofInt (g.1 x) ↔ g.1 y ≤ g.1 x := by rw [Int32.le_iff_toInt_le, tx, ty]
  show W p l e R s m args below meth c H locs cn sn Q (F0 m pc ls (.int (Int32.ofInt (g.1 y)) :: .int (Int32.ofInt (g.1 x)) :: r.map (rv_v g)))
  cases cd with
  | eq => exact lv_icmp_eq hx hbb hdg ht (fun q => KT (heq.mp q)) (fun q => KF (fun z => q (heq.mpr z)))
  | ne => exact lv_icmp_ne hx hbb hdg ht (fun q => KT (fun z => q (heq.mpr z))) (fun q => KF (heq.mp q))
  | lt => exact lv_icmp_lt hx hbb hdg ht (fun q => KT (hlt.mp q)) (fun q => KF (Int.not_lt.mp fun z => q (hlt.mpr z)))
  | ge => exact lv_icmp_ge hx hbb hdg ht (fun q => KT (hge.mp q)) (fun q => KF (Int.not_le.mp fun z => q (hge.mpr z)))
  | gt => exact lv_icmp_gt hx hbb hdg ht (fun q => KT (hgt.mp q)) (fun q => KF (Int.not_lt.mp fun z => q (hgt.mpr z)))
  | le => exact lv_icmp_le hx hbb hdg ht (fun q => KT (hle.mp q)) (fun q => KF (Int.not_le.mp fun z => q (hle.mpr z)))
/-- a test of what a comparison of longs left: equal, then -/
def rv_lk7 (fs : List rv_Fc) (x : Nat) : Option (Nat × Nat) := match fs with
  | [(7, [r, u, v])] => bif Nat.beq r x then some (u, v) else none
  | _ => none
def rv_cE (cd : Jvm.ClassFile.Cond) (x : Nat) (a : rv_E) (Es : List (List rv_E)) : List (List rv_E) := match cd with
  | .eq => match rv_lk7 a.2.2.2.2 x with
    | some q => Es.flatMap (fun E' => (rv_cmp 2 E' q.1 q.2).toList)
    | none => Es
  | _ => Es
theorem rv_cE_ok {cd : Jvm.ClassFile.Cond} {a : rv_E} {Es : List (List rv_E)} {x : Nat} (RR : rv_R D cl A s.heap cy nL ρ g E L K X ls H locs) (hE : E ∈ Es) (hf : rv_fs g E.length a.2.2.2.2) (h : rv_cr cd (g.1 x) 0) : ∃ E' ∈ rv_cE cd x a Es, rv_R D cl A s.heap cy nL ρ g E' L K X ls H locs := by
  unfold rv_cE
  cases cd with
  | eq =>
    dsimp only
    cases hk : rv_lk7 a.2.2.2.2 x with
    | none => exact ⟨E, hE, RR⟩
    | some q =>
      obtain ⟨u, v⟩ := q
      unfold rv_lk7 at hk
      split at hk
      · rename_i r u' v' hfs
        cases hr : Nat.beq r x with
        | false => simp only [hr, cond_false] at hk; cases hk
        | true =>
          simp only [hr, cond_true] at hk
          cases hk
          have hr := Nat.eq_of_beq_eq_true hr
          subst hr
          rw [hfs] at hf
          obtain ⟨h1, h2⟩ := hf _ (List.mem_singleton.mpr rfl)
          have h2 : (rv_z g r).1 = 0 ↔ (rv_z g u).1 = (rv_z g v).1 := h2
          have e1 : g.1 u = g.1 v := h2.mp h
          obtain ⟨E', q1, -, q2⟩ := RR.cmp2 (h1 u (by simp)) (h1 v (by simp)) e1
          exact ⟨E', List.mem_flatMap.mpr ⟨E, hE, by rw [q1]; exact List.mem_singleton.mpr rfl⟩, q2⟩
      · cases hk
  | _ => exact ⟨E, hE, RR⟩
/-- a test of an int against 0: an entry for the 0 -/
theorem rv_o_if (Cx : rv_Cx p s m args c cc own nL Ts D cl cy A st) {cd : Jvm.ClassFile.Cond} {off : Int} {tgt : Nat} (hdg : decode cc pc = .ok (.ifCond cd off, 3)) (ht : (pc : Int) + off = (tgt : Int)) (sp sp' : Bool) {x : Nat} {a : rv_E} (ha : E[x]? = some a) (h1 : rv_i32 a = true)
    (kt : ∀ E' ∈ rv_cE cd x a (rv_cT sp cd (E ++ [(0, 0, E.length, 0, [rv_cf cd x E.length])]) x E.length), rv_Ok p l e R s m args below meth c Q D cl A cy nL ρ tgt E' L r X cn sn) (kf : ∀ E' ∈ rv_cE (rv_ng cd) x a (rv_cT sp' (rv_ng cd) (E ++ [(0, 0, E.length, 0, [rv_cf (rv_ng cd) x E.length])]) x E.length), rv_Ok p l e R s m args below meth c Q D cl A cy nL ρ (pc + 3) E' L r X cn sn) : rv_Ok p l e R s m args below meth c Q D cl A cy nL ρ pc E L ((0, x) :: r) X cn sn := by
  obtain ⟨hx, hbb, -⟩ := Cx
  intro g ls H locs RR
  obtain ⟨tx, ax, bx⟩ := rv_i32_ok RR.1 ha h1
  have hxl : x < E.length := (List.getElem?_eq_some_iff.mp ha).1
  have hr : ∀ a ∈ r, rv_ok E.length X.length a := fun a h => RR.kK a (List.mem_cons_of_mem _ h)
  have hag := rv_up_ag g E.length X.length 0 (fun _ => 0)
  have gx : (rv_up g E.length 0 (fun _ => 0)).1 x = g.1 x := hag.1 x hxl
  have g0 : (rv_up g E.length 0 (fun _ => 0)).1 E.length = 0 := rv_up_self _ _ _ _
  have ha' : ∀ fs : List rv_Fc, (E ++ [(0, 0, E.length, 0, fs)])[x]? = some a := fun fs => by rw [List.getElem?_append_left hxl]; exact ha
  have hb' : ∀ fs : List rv_Fc, (E ++ [((0 : Int), (0 : Int), E.length, (0 : Int), fs)])[E.length]? = some (0, 0, E.length, 0, fs) := fun fs => by rw [List.getElem?_append_right (Nat.le_refl _), Nat.sub_self]; rfl
  have KT : rv_cr cd (g.1 x) 0 → W p l e R s m args below meth c H locs cn sn Q (F0 m tgt ls (r.map (rv_v g))) := fun h => by
    have R1 := (RR.sK hr).fresh (z := 0) (lo := 0) (hi := 0) (base := E.length) (off := 0) (f := fun _ => 0) (fs := [rv_cf cd x E.length]) (Int.le_refl _) (Int.le_refl _) (Or.inl ⟨rfl, rfl⟩) (rv_cf_ok cd (by omega) (by omega) (by rw [gx, g0]; exact h))
    obtain ⟨E1, m0, l0, R0⟩ := rv_cT_ok R1 sp cd (ha' _) (hb' _) h1 rfl (by rw [gx, g0]; exact h)
    obtain ⟨E', m1, R'⟩ := rv_cE_ok (cd := cd) (a := a) (x := x) R0 m0 (fun q hq => ⟨fun j hj => by rw [l0]; exact ((R1.1 x a (ha' _)).2.2.2 q hq).1 j hj, ((R1.1 x a (ha' _)).2.2.2 q hq).2⟩) (by rw [gx]; exact h)
    have h3 := kt E' m1 _ ls H locs R'
    rw [rv_K_ag hag hr] at h3
    exact h3
  have KF : rv_cr (rv_ng cd) (g.1 x) 0 → W p l e R s m args below meth c H locs cn sn Q (F0 m (pc + 3) ls (r.map (rv_v g))) := fun h => by
    have R1 := (RR.sK hr).fresh (z := 0) (lo := 0) (hi := 0) (base := E.length) (off := 0) (f := fun _ => 0) (fs := [rv_cf (rv_ng cd) x E.length]) (Int.le_refl _) (Int.le_refl _) (Or.inl ⟨rfl, rfl⟩) (rv_cf_ok (rv_ng cd) (by omega) (by omega) (by rw [gx, g0]; exact h))
    obtain ⟨E1, m0, l0, R0⟩ := rv_cT_ok R1 sp' (rv_ng cd) (ha' _) (hb' _) h1 rfl (by rw [gx, g0]; exact h)
    obtain ⟨E', m1, R'⟩ := rv_cE_ok (cd := rv_ng cd) (a := a) (x := x) R0 m0 (fun q hq => ⟨fun j hj => by rw [l0]; exact ((R1.1 x a (ha' _)).2.2.2 q hq).1 j hj, ((R1.1 x a (ha' _)).2.2.2 q hq).2⟩) (by rw [gx]; exact h)
    have h3 := kf E' m1 _ ls H locs R'
    rw [rv_K_ag hag hr] at h3
    exact h3
  have z0 : (0 : Int32).toInt = 0 := by decide
  have heq : Int32.ofInt (g.1 x) = 0 ↔ g.1 x = 0 := ⟨fun q => by rw [← tx, q]; exact z0, fun q => by rw [q]; decide⟩
  have hlt : Int32.ofInt (g.1 x) < 0 ↔ g.1 x < 0 := by rw [Int32.lt_iff_toInt_lt, tx, z0]
  have hgt : 0 < Int32.ofInt (g.1 x) ↔ 0 < g.1 x := by rw [Int32.lt_iff_toInt_lt, tx, z0]
  have hle : Int32.ofInt (g.1 x) ≤ 0 ↔ g.1 x ≤ 0 := by rw [Int32.le_iff_toInt_le, tx, z0]
  have hge : 0 ≤ Int32.ofInt (g.1 x) ↔ 0 ≤ g.1 x := by rw [Int32.le_iff_toInt_le, tx, z0]
  show W p l e R s m args below meth c H locs cn sn Q (F0 m pc ls (.int (Int32.ofInt (g.1 x)) :: r.map (rv_v g)))
  cases cd with
  | eq => exact lv_if_eq hx hbb hdg ht (fun q => KT (heq.mp q)) (fun q => KF (fun z => q (heq.mpr z)))
  | ne => exact lv_if_ne hx hbb hdg ht (fun q => KT (fun z => q (heq.mpr z))) (fun q => KF (heq.mp q))
  | lt => exact lv_if_lt hx hbb hdg ht (fun q => KT (hlt.mp q)) (fun q => KF (Int.not_lt.mp fun z => q (hlt.mpr z)))
  | ge => exact lv_if_ge hx hbb hdg ht (fun q => KT (hge.mp q)) (fun q => KF (Int.not_le.mp fun z => q (hge.mpr z)))
  | gt => exact lv_if_gt hx hbb hdg ht (fun q => KT (hgt.mp q)) (fun q => KF (Int.not_lt.mp fun z => q (hgt.mpr z)))
  | le => exact lv_if_le hx hbb hdg ht (fun q => KT (hle.mp q)) (fun q => KF (Int.not_le.mp fun z => q (hle.mpr z)))
end
