/-! rows: copies, min and max, Object's constructor, switches -/
def rv_M1 (own : String) (Ts : List Jvm.Cond) (q : Nat × Nat) : Prop := (q.2 = 11 ∧ Jvm.Cond.methodLink own q.1 Lib.Math.max.name ∈ Ts ∧ Jvm.Cond.static Lib.Math.max.name ∈ Ts ∧ Jvm.Cond.initialized "java/lang/Math" ∈ Ts ∧ Jvm.Cond.code Lib.Math.max.name Lib.Math.max.code 2 (some .int) ∈ Ts) ∨ (q.2 = 12 ∧ Jvm.Cond.methodLink own q.1 Lib.Math.min.name ∈ Ts ∧ Jvm.Cond.static Lib.Math.min.name ∈ Ts ∧ Jvm.Cond.initialized "java/lang/Math" ∈ Ts ∧ Jvm.Cond.code Lib.Math.min.name Lib.Math.min.code 2 (some .int) ∈ Ts)
def rv_Y1 (own : String) (Ts : List Jvm.Cond) (i : Nat) : Prop := Jvm.Cond.methodLink own i arraycopyName ∈ Ts ∧ Jvm.Cond.native arraycopyName ∈ Ts ∧ Jvm.Cond.static arraycopyName ∈ Ts ∧ Jvm.Cond.initialized "java/lang/System" ∈ Ts
def rv_O1 (own : String) (Ts : List Jvm.Cond) (i : Nat) : Prop := Jvm.Cond.methodLink own i objectInit ∈ Ts ∧ Jvm.Cond.instanceMethod objectInit ∈ Ts ∧ Jvm.Cond.code objectInit ⟨#[0xb1]⟩ 1 none ∈ Ts
def rv_tg (pc : Nat) (off : Int) : Nat := (Int.ofNat pc + off).toNat
theorem rv_tg_ok {pc : Nat} {off : Int} (h : rv_le 0 (Int.ofNat pc + off) = true) : (pc : Int) + off = (rv_tg pc off : Int) := by
  rw [rv_le_iff] at h
  unfold rv_tg
  have e1 : Int.ofNat pc = (pc : Int) := rfl
  rw [e1] at h ⊢
  omega
def rv_ts (pc : Nat) (E : List rv_E) (x : Nat) (lo : Int) (offs : List Int) : Option (List (Nat × List rv_E)) := match offs with
  | [] => some []
  | off :: r => match rv_ts pc E x (lo + 1) r with
    | some t => bif rv_le 0 (Int.ofNat pc + off) then some ((rv_cut E x lo lo).toList.map (fun E2 => (rv_tg pc off, E2)) ++ t) else none
    | none => none
def rv_lsw (pc : Nat) (E : List rv_E) (x : Nat) (dflt : Int) (ps : List (Int × Int)) : Option (List (Nat × List rv_E)) := match ps with
  | [] => bif rv_le 0 (Int.ofNat pc + dflt) then some [(rv_tg pc dflt, E)] else none
  | q :: r => match rv_lsw pc E x dflt r, E[x]? with
    | some t, some a => bif rv_le 0 (Int.ofNat pc + q.2) then (bif rv_le a.2.1 q.1 && rv_le q.1 a.1 then some [(rv_tg pc q.2, E)] else some ((rv_cut E x q.1 q.1).toList.map (fun E2 => (rv_tg pc q.2, E2)) ++ t)) else none
    | _, _ => none
section
variable {p : Program} {l : Launch} {e : Env} {R : Room} {s : State} {m : MethodId} {args : Array Value} {below : List Frame} {meth : Method} {c : Code} {Q : State → Prop} {D : va_G} {cl : List vw_C} {A : Nat → Prop} {cy : Nat → ClassId} {nL : Nat} {ρ : rv_Ho}
variable {cc : ByteArray} {own : String} {Ts : List Jvm.Cond} {pc pc' : Nat} {E : List rv_E} {L : List (Nat × rv_V)} {K r : List rv_V} {X : List rv_C} {cn sn : Nat} {g : rv_G} {ls : Array Slot} {H : Heap} {locs : List Loc} {st : Nat → Nat}
theorem rv_o_mm (Cx : rv_Cx p s m args c cc own nL Ts D cl cy A st) {q : Nat × Nat} (hM : rv_M1 own Ts q) (hdg : decode cc pc = .ok (.invokestatic q.1, 3)) {x y : Nat} {a b : rv_E} (ha : E[x]? = some a) (hb : E[y]? = some b) (h1 : rv_i32 a = true) (h2 : rv_i32 b = true) (hf : 1 ≤ R.frames) (hlo : rv_catS r + 13 ≤ R.locals) (hc : cn ≤ R.cells) (hs : sn ≤ R.slots)
    (ok : rv_Ok p l e R s m args below meth c Q D cl A cy nL ρ (pc + 3) (E ++ [rv_ent q.2 E.length [(rv_tag q.2, [E.length, x, y])] a b]) L ((0, E.length) :: r) X cn sn) : rv_Ok p l e R s m args below meth c Q D cl A cy nL ρ pc E L ((0, y) :: (0, x) :: r) X cn sn := by
  obtain ⟨hx, hbb, hml, hown, hts, -⟩ := Cx
  intro g ls H locs RR
  obtain ⟨tx, ax, bx⟩ := rv_i32_ok RR.1 ha h1
  obtain ⟨ty, ay, by2⟩ := rv_i32_ok RR.1 hb h2
  have hr : ∀ a ∈ r, rv_ok E.length X.length a := fun a h => RR.kK a (List.mem_cons_of_mem _ (List.mem_cons_of_mem _ h))
  have k := rv_pushI (pc' := pc + 3) RR hr (rv_ent_ok q.2 [(rv_tag q.2, [E.length, x, y])] (g := g) (E := E) (a := a) (b := b) (x := Int32.ofInt (g.1 x)) (y := Int32.ofInt (g.1 y)) (by rw [tx]; exact ax) (by rw [tx]; exact bx) (by rw [tx]; exact (RR.1 x a ha).2.2.1) (by rw [ty]; exact ay) (by rw [ty]; exact by2) (by rw [ty]; exact (RR.1 y b hb).2.2.1) (RR.2.2.1.1 a (List.mem_of_getElem? ha)) (RR.2.2.1.1 b (List.mem_of_getElem? hb))) (rv_ent_fsok q.2 (List.getElem?_eq_some_iff.mp ha).1 (List.getElem?_eq_some_iff.mp hb).1 a b) ok
  have hml2 : c.maxLocals = ls.size := hml.trans RR.2.2.2.2.1.1.symm
  have hl2 : ((r.map (rv_v g)).map fun v => v.category).sum + 13 ≤ R.locals := by rw [rv_catS_ok]; exact hlo
  show W p l e R s m args below meth c H locs cn sn Q (F0 m pc ls (.int (Int32.ofInt (g.1 y)) :: .int (Int32.ofInt (g.1 x)) :: r.map (rv_v g)))
  rcases hM with ⟨e1, m1, m2, m3, m4⟩ | ⟨e1, m1, m2, m3, m4⟩
  · rw [e1] at k
    exact va_mmax hx hbb hml2 hown (hts _ m1) (hts _ m2) (hts _ m3) (hts _ m4) hf hl2 hc hs hdg k
  · rw [e1] at k
    exact va_mmin hx hbb hml2 hown (hts _ m1) (hts _ m2) (hts _ m3) (hts _ m4) hf hl2 hc hs hdg k
theorem rv_o_obj (Cx : rv_Cx p s m args c cc own nL Ts D cl cy A st) {i : Nat} (hO : rv_O1 own Ts i) (hdg : decode cc pc = .ok (.invokespecial i, 3)) {q : Nat} (hf : 1 ≤ R.frames) (hlo : rv_catS r + 12 ≤ R.locals)
    (ok : rv_Ok p l e R s m args below meth c Q D cl A cy nL ρ (pc + 3) E L r X cn sn) : rv_Ok p l e R s m args below meth c Q D cl A cy nL ρ pc E L ((2, q) :: r) X cn sn := by
  obtain ⟨hx, hbb, hml, hown, hts, -⟩ := Cx
  intro g ls H locs RR
  have hml2 : ls.size = c.maxLocals := RR.2.2.2.2.1.1.trans hml.symm
  have k := ok g ls H locs (RR.sK fun b hb => RR.kK b (List.mem_cons_of_mem _ hb))
  refine W.objInit (a := g.2.1 q) (rest := r.map (rv_v g)) hx hbb hown (hts _ hO.1) (hts _ hO.2.1) (hts _ hO.2.2) rfl hml2 rfl hdg hf ?_ k
  show 2 * 0 + ((r.map (rv_v g)).map fun v => v.category).sum + 12 ≤ R.locals
  rw [rv_catS_ok]
  omega
def rv_cpb (en : rv_E) (es : rv_E) (n : Nat) : Bool := rv_le 0 en.1 && (rv_le 0 es.1 && (rv_le (es.2.1 + en.2.1) (Int.ofNat n) && Nat.ble n 2147483647))
theorem rv_cpb_ok {en es : rv_E} {n : Nat} {u v : Int} (h : rv_cpb en es n = true) (h1 : en.1 ≤ u) (h2 : u ≤ en.2.1) (h3 : es.1 ≤ v) (h4 : v ≤ es.2.1) : ¬ Int32.ofInt u < 0 ∧ ¬ Int32.ofInt v < 0 ∧ (Int32.ofInt u).toNatClampNeg = u.toNat ∧ (Int32.ofInt v).toNatClampNeg = v.toNat ∧ v.toNat + u.toNat ≤ n := by
  unfold rv_cpb at h
  rw [Bool.and_eq_true, Bool.and_eq_true, Bool.and_eq_true, rv_le_iff, rv_le_iff, rv_le_iff, Nat.ble_eq] at h
  have e1 : Int.ofNat n = (n : Int) := rfl
  rw [e1] at h
  have z0 : (0 : Int32).toInt = 0 := by decide
  have tu : (Int32.ofInt u).toInt = u := rv_of32 (by rw [rv_lo_eq]; omega) (by rw [rv_hi_eq]; omega)
  have tv : (Int32.ofInt v).toInt = v := rv_of32 (by rw [rv_lo_eq]; omega) (by rw [rv_hi_eq]; omega)
  refine ⟨?_, ?_, ?_, ?_, by omega⟩
  · rw [Int32.lt_iff_toInt_lt, tu, z0]; omega
  · rw [Int32.lt_iff_toInt_lt, tv, z0]; omega
  · show (Int32.ofInt u).toInt.toNat = _; rw [tu]
  · show (Int32.ofInt v).toInt.toNat = _; rw [tv]
theorem rv_o_copy (Cx : rv_Cx p s m args c cc own nL Ts D cl cy A st) {i : Nat} (hY : rv_Y1 own Ts i) (hdg : decode cc pc = .ok (.invokestatic i, 3)) {n dp sp q0 q1 : Nat} {a0 a1 : rv_Ar} {en ed es : rv_E} {h0 h1 : Int × Int} (hq0 : X[q0]? = some (.inr a0)) (hq1 : X[q1]? = some (.inr a1)) (hn : E[n]? = some en) (hd : E[dp]? = some ed) (hs : E[sp]? = some es) (t0 : Nat.beq a0.1 1 = true) (t1 : Nat.beq a1.1 1 = true) (b0 : rv_cpb en es a0.2.1 = true) (b1 : rv_cpb en ed a1.2.1 = true) (u0 : rv_hull E (a0.2.2.1, a0.2.2.2.1) a0.2.2.2.2.1 = some h0) (u1 : rv_hull E (a1.2.2.1, a1.2.2.2.1) a1.2.2.2.2.1 = some h1) (hf : 1 ≤ R.frames) (hlo : rv_catS r + 18 ≤ R.locals)
    (ok : rv_Ok p l e R s m args below meth c Q D cl A cy nL ρ (pc + 3) (E ++ [(0, 0, E.length, 0, [])]) L r (X.set q1 (.inr (1, a1.2.1, rv_min h0.1 h1.1, rv_max h0.2 h1.2, [], E.length))) cn sn) : rv_Ok p l e R s m args below meth c Q D cl A cy nL ρ pc E L ((0, n) :: (0, dp) :: (2, q1) :: (0, sp) :: (2, q0) :: r) X cn sn := by
  obtain ⟨hx, hbb, hml, hown, hts, hK, -⟩ := Cx
  intro g ls H locs RR
  have hml2 : c.maxLocals = ls.size := hml.trans RR.2.2.2.2.1.1.symm
  have hr : ∀ a ∈ r, rv_ok E.length X.length a := fun a h => RR.kK a (by simp only [List.mem_cons]; exact Or.inr (Or.inr (Or.inr (Or.inr (Or.inr h)))))
  obtain ⟨n1, n2, -⟩ := RR.1 n en hn
  obtain ⟨d1, d2, -⟩ := RR.1 dp ed hd
  obtain ⟨s1, s2, -⟩ := RR.1 sp es hs
  obtain ⟨x1, x2, x3, x4, x5⟩ := rv_cpb_ok b0 n1 n2 s1 s2
  obtain ⟨-, y2, -, y4, y5⟩ := rv_cpb_ok b1 n1 n2 d1 d2
  have H0 := rv_hull_all RR.1 (RR.2.1 q0 a0 hq0) u0
  have H1 := rv_hull_all RR.1 (RR.2.1 q1 a1 hq1) u1
  have hw0 := rv_w_at (cy := cy) (g := g) hq0
  have hw1 := rv_w_at (cy := cy) (g := g) hq1
  have t0 : a0.1 = 1 := Nat.eq_of_beq_eq_true t0
  have t1 : a1.1 = 1 := Nat.eq_of_beq_eq_true t1
  obtain ⟨k0, m0, lo0, hi0, tr0, c0⟩ := a0
  obtain ⟨k1, m1, lo1, hi1, tr1, c1⟩ := a1
  have t0 : k0 = 1 := t0
  have t1 : k1 = 1 := t1
  subst t0
  subst t1
  show W p l e R s m args below meth c H locs cn sn Q (F0 m pc ls (.int (Int32.ofInt (g.1 n)) :: .int (Int32.ofInt (g.1 dp)) :: .ref (g.2.1 q1) :: .int (Int32.ofInt (g.1 sp)) :: .ref (g.2.1 q0) :: r.map (rv_v g)))
  refine va_copyi (D := D) (cl := cl) (ty := .int) (f := fun j => Int32.ofInt (g.2.2.1 c0 j)) (g := fun j => Int32.ofInt (g.2.2.1 c1 j)) (n0 := m0) (n1 := m1) hx hbb hml2 hown (hts _ hY.1) (hts _ hY.2.1) (hts _ hY.2.2.1) (hts _ hY.2.2.2) hK RR.2.2.2.2.2.1 RR.2.2.2.2.2.2.1 RR.2.2.2.2.2.2.2 q0 q1 1 1 hw0 hw1 rfl rfl rfl x2 y2 x1 (by rw [x3, x4]; exact x5) (by rw [x3, y4]; exact y5) (fun _ _ => rfl) hf (by rw [rv_catS_ok]; exact hlo) hdg (fun H2 locs2 hP2 hD2 hS2 => ?_)
  have ef : (fun j => Int32.ofInt ((rv_up g E.length 0 (va_cpy (g.2.2.1 c0) (g.2.2.1 c1) (g.1 sp).toNat (g.1 dp).toNat (g.1 n).toNat)).2.2.1 E.length j)) = va_cpy (fun j => Int32.ofInt (g.2.2.1 c0 j)) (fun j => Int32.ofInt (g.2.2.1 c1 j)) (Int32.ofInt (g.1 sp)).toNatClampNeg (Int32.ofInt (g.1 dp)).toNatClampNeg (Int32.ofInt (g.1 n)).toNatClampNeg := by
    funext j
    rw [x3, x4, y4, rv_up_selfc]
    unfold va_cpy
    by_cases hj : (g.1 dp).toNat ≤ j ∧ j < (g.1 dp).toNat + (g.1 n).toNat
    · rw [if_pos hj, if_pos hj]
    · rw [if_neg hj, if_neg hj]
  have h3 := ok _ ls H2 locs2 ((RR.sK hr).sA (f := va_cpy (g.2.2.1 c0) (g.2.2.1 c1) (g.1 sp).toNat (g.1 dp).toNat (g.1 n).toNat) (fs := []) (a' := (1, m1, rv_min h0.1 h1.1, rv_max h0.2 h1.2, [], E.length)) hq1 (fun z hz => by cases hz) rfl (fun j => by
    have m1 := rv_min_or h0.1 h1.1
    have m2 := rv_max_or h0.2 h1.2
    refine ⟨fun i hi => (by cases hi), fun _ => ?_⟩
    show rv_min h0.1 h1.1 ≤ (rv_up g E.length 0 _).2.2.1 E.length j ∧ (rv_up g E.length 0 _).2.2.1 E.length j ≤ rv_max h0.2 h1.2
    rw [rv_up_selfc]
    unfold va_cpy
    by_cases hj : (g.1 dp).toNat ≤ j ∧ j < (g.1 dp).toNat + (g.1 n).toNat
    · rw [if_pos hj]
      have : h0.1 ≤ g.2.2.1 c0 ((g.1 sp).toNat + (j - (g.1 dp).toNat)) ∧ g.2.2.1 c0 ((g.1 sp).toNat + (j - (g.1 dp).toNat)) ≤ h0.2 := H0 ((g.1 sp).toNat + (j - (g.1 dp).toNat))
      omega
    · rw [if_neg hj]
      have : h1.1 ≤ g.2.2.1 c1 j ∧ g.2.2.1 c1 j ≤ h1.2 := H1 j
      omega) rv_fs_nil (by simp only [rv_d]; rw [ef]; exact hP2) (by simp only [rv_d]; rw [ef]; exact hD2) hS2)
  rw [rv_K_ag (rv_up_ag g E.length X.length 0 _) hr] at h3
  exact h3
theorem rv_ts_ok (RR : rv_R D cl A s.heap cy nL ρ g E L K X ls H locs) {x : Nat} (hx : x < E.length) : ∀ {offs : List Int} {lo : Int} {t : List (Nat × List rv_E)} {k : Nat} {off : Int}, rv_ts pc E x lo offs = some t → offs[k]? = some off → g.1 x = lo + (k : Int) → ∃ E', (rv_tg pc off, E') ∈ t ∧ (pc : Int) + off = (rv_tg pc off : Int) ∧ rv_R D cl A s.heap cy nL ρ g E' L K X ls H locs
  | [], lo, t, k, off, h, hk, hz => by cases hk
  | o :: offs, lo, t, k, off, h, hk, hz => by
    unfold rv_ts at h
    cases ht : rv_ts pc E x (lo + 1) offs with
    | none => rw [ht] at h; cases h
    | some t2 =>
      rw [ht] at h
      cases hc : rv_le 0 (Int.ofNat pc + o) with
      | false => simp only [hc, cond_false] at h; cases h
      | true =>
        simp only [hc, cond_true] at h
        have h := Option.some.inj h
        subst h
        match k, hk with
        | 0, hk =>
          have hk : o = off := Option.some.inj hk
          subst hk
          obtain ⟨E', e1, -, R'⟩ := RR.cut hx (lo := lo) (hi := lo) (by omega) (by omega)
          refine ⟨E', List.mem_append_left _ (List.mem_map.mpr ⟨E', ?_, rfl⟩), rv_tg_ok hc, R'⟩
          rw [e1]
          exact List.mem_singleton.mpr rfl
        | k + 1, hk =>
          obtain ⟨E', q1, q2, q3⟩ := rv_ts_ok RR hx (k := k) ht hk (by omega)
          exact ⟨E', List.mem_append_right _ q1, q2, q3⟩
theorem rv_o_tsw (Cx : rv_Cx p s m args c cc own nL Ts D cl cy A st) {dflt lo hi : Int} {offs : Array Int} {len : Nat} (hdg : decode cc pc = .ok (.tableswitch dflt lo hi offs, len)) {x : Nat} {a : rv_E} (ha : E[x]? = some a) (h1 : rv_i32 a = true) (hsz : rv_le (hi - lo + 1) (Int.ofNat offs.toList.length) = true) (hd : rv_le 0 (Int.ofNat pc + dflt) = true) {t : List (Nat × List rv_E)} (ht : rv_ts pc E x lo offs.toList = some t)
    (ok : ∀ q ∈ t, rv_Ok p l e R s m args below meth c Q D cl A cy nL ρ q.1 q.2 L r X cn sn) (okd : ∀ E' ∈ (rv_cut E x rv_lo (lo - 1)).toList ++ (rv_cut E x (hi + 1) rv_hi).toList, rv_Ok p l e R s m args below meth c Q D cl A cy nL ρ (rv_tg pc dflt) E' L r X cn sn) : rv_Ok p l e R s m args below meth c Q D cl A cy nL ρ pc E L ((0, x) :: r) X cn sn := by
  obtain ⟨hx, hbb, -⟩ := Cx
  intro g ls H locs RR
  obtain ⟨tx, ax, bx⟩ := rv_i32_ok RR.1 ha h1
  have hxl : x < E.length := (List.getElem?_eq_some_iff.mp ha).1
  have hr : ∀ a ∈ r, rv_ok E.length X.length a := fun a h => RR.kK a (List.mem_cons_of_mem _ h)
  have R0 := RR.sK hr
  unfold rv_i32 at h1
  rw [Bool.and_eq_true, rv_le_iff, rv_le_iff] at h1
  have l1 := Int.le_trans h1.1 ax
  have l2 := Int.le_trans bx h1.2
  rw [rv_le_iff] at hsz
  show W p l e R s m args below meth c H locs cn sn Q (F0 m pc ls (.int (Int32.ofInt (g.1 x)) :: r.map (rv_v g)))
  by_cases c1 : g.1 x < lo
  · obtain ⟨E', e1, -, R'⟩ := R0.cut hxl (lo := rv_lo) (hi := lo - 1) l1 (by omega)
    exact lv_tableOut hx hbb hdg (Or.inl (by rw [tx]; exact c1)) (rv_tg_ok hd) (okd E' (List.mem_append_left _ (by rw [e1]; exact List.mem_singleton.mpr rfl)) g ls H locs R')
  · by_cases c2 : hi < g.1 x
    · obtain ⟨E', e1, -, R'⟩ := R0.cut hxl (lo := hi + 1) (hi := rv_hi) (by omega) l2
      exact lv_tableOut hx hbb hdg (Or.inr (by rw [tx]; exact c2)) (rv_tg_ok hd) (okd E' (List.mem_append_right _ (by rw [e1]; exact List.mem_singleton.mpr rfl)) g ls H locs R')
    · have hlt : (g.1 x - lo).toNat < offs.toList.length := by
        have e3 : Int.ofNat offs.toList.length = (offs.toList.length : Int) := rfl
        rw [e3] at hsz
        omega
      have hget : offs.toList[(g.1 x - lo).toNat]? = some (offs.toList[(g.1 x - lo).toNat]) := List.getElem?_eq_getElem hlt
      obtain ⟨E', q1, q2, q3⟩ := rv_ts_ok R0 hxl ht hget (by omega)
      refine lv_tableIn hx hbb hdg (by rw [tx]; exact c1) (by rw [tx]; exact c2) (off := offs.toList[(g.1 x - lo).toNat]) (by rw [tx, ← Array.getElem?_toList]; exact hget) q2 (ok _ q1 g ls H locs q3)
theorem rv_lsw_ok (RR : rv_R D cl A s.heap cy nL ρ g E L K X ls H locs) {x : Nat} (hx : x < E.length) {dflt : Int} : ∀ {ps : List (Int × Int)} {t : List (Nat × List rv_E)}, rv_lsw pc E x dflt ps = some t → ∃ E', (rv_tg pc (Op.lookupswitch.offset ps dflt (g.1 x)), E') ∈ t ∧ (pc : Int) + Op.lookupswitch.offset ps dflt (g.1 x) = (rv_tg pc (Op.lookupswitch.offset ps dflt (g.1 x)) : Int) ∧ rv_R D cl A s.heap cy nL ρ g E' L K X ls H locs
  | [], t, h => by
    unfold rv_lsw at h
    cases hc : rv_le 0 (Int.ofNat pc + dflt) with
    | false => simp only [hc, cond_false] at h; cases h
    | true =>
      simp only [hc, cond_true] at h
      have h := Option.some.inj h
      subst h
      rw [Op.lookupswitch.offset_nil]
      exact ⟨E, List.mem_singleton.mpr rfl, rv_tg_ok hc, RR⟩
  | q :: ps, t, h => by
    unfold rv_lsw at h
    split at h
    · rename_i t2 ea ht hE
      cases hc : rv_le 0 (Int.ofNat pc + q.2) with
      | false => simp only [hc, cond_false] at h; cases h
      | true =>
        simp only [hc, cond_true] at h
        obtain ⟨a, o⟩ := q
        rw [Op.lookupswitch.offset_cons]
        obtain ⟨z1, z2, -⟩ := RR.1 x ea hE
        cases hs : (rv_le ea.2.1 a && rv_le a ea.1) with
        | true =>
          simp only [hs, cond_true] at h
          have h := Option.some.inj h
          subst h
          rw [Bool.and_eq_true, rv_le_iff, rv_le_iff] at hs
          rw [if_pos (show a = g.1 x by omega)]
          exact ⟨E, List.mem_singleton.mpr rfl, rv_tg_ok hc, RR⟩
        | false =>
          simp only [hs, cond_false] at h
          have h := Option.some.inj h
          subst h
          by_cases hz : a = g.1 x
          · rw [if_pos hz]
            obtain ⟨E', e1, -, R'⟩ := RR.cut hx (lo := a) (hi := a) (by omega) (by omega)
            refine ⟨E', List.mem_append_left _ (List.mem_map.mpr ⟨E', ?_, rfl⟩), rv_tg_ok hc, R'⟩
            show E' ∈ (rv_cut E x a a).toList
            rw [e1]
            exact List.mem_singleton.mpr rfl
          · rw [if_neg hz]
            obtain ⟨E', q1, q2, q3⟩ := rv_lsw_ok RR hx ht
            exact ⟨E', List.mem_append_right _ q1, q2, q3⟩
    · cases h
theorem rv_o_lsw (Cx : rv_Cx p s m args c cc own nL Ts D cl cy A st) {dflt : Int} {ps : Array (Int × Int)} {len : Nat} (hdg : decode cc pc = .ok (.lookupswitch dflt ps, len)) (hp : (ps.toList.zip (ps.toList.drop 1)).all (fun (a, next) => a.1 < next.1) = true) {x : Nat} {a : rv_E} (ha : E[x]? = some a) (h1 : rv_i32 a = true) {t : List (Nat × List rv_E)} (ht : rv_lsw pc E x dflt ps.toList = some t)
    (ok : ∀ q ∈ t, rv_Ok p l e R s m args below meth c Q D cl A cy nL ρ q.1 q.2 L r X cn sn) : rv_Ok p l e R s m args below meth c Q D cl A cy nL ρ pc E L ((0, x) :: r) X cn sn := by
  obtain ⟨hx, hbb, -⟩ := Cx
  intro g ls H locs RR
  obtain ⟨tx, ax, bx⟩ := rv_i32_ok RR.1 ha h1
  have hxl : x < E.length := (List.getElem?_eq_some_iff.mp ha).1
  have hr : ∀ a ∈ r, rv_ok E.length X.length a := fun a h => RR.kK a (List.mem_cons_of_mem _ h)
  obtain ⟨E', q1, q2, q3⟩ := rv_lsw_ok (RR.sK hr) hxl ht
  exact lv_lookup hx hbb hdg hp (off := Op.lookupswitch.offset ps.toList dflt (g.1 x)) (by rw [tx]) q2 (ok _ q1 g ls H locs q3)
end
