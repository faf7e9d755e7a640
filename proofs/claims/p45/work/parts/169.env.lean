/-! environments for the kernel: a base with a table of its suffixes, cuts of it, new ids (the newest first) -/
abbrev rv_F := Nat × List (List rv_E) × List rv_E × List (Nat × rv_E) × Nat × List rv_E
abbrev rv_M := Nat × rv_F × List (Nat × rv_V) × List rv_V × List rv_C × Nat × Nat
noncomputable def rf_oe (C : List (Nat × rv_E)) (i : Nat) : Option rv_E := List.rec (motive := fun _ => Option rv_E) none (fun q _ ih => bif Nat.beq q.1 i then some q.2 else ih) C
noncomputable def rf_toE (F : rv_F) : List rv_E := F.2.2.1.mapIdx (fun i e => (rf_oe F.2.2.2.1 i).getD e) ++ F.2.2.2.2.2.reverse
def rf_I (F : rv_F) : Prop := F.1 = F.2.2.1.length ∧ (∀ i, rv_gt F.2.1 F.2.2.1 i = F.2.2.1[i]?) ∧ F.2.2.2.2.1 = F.1 + F.2.2.2.2.2.length
noncomputable def rf_toN (M : rv_M) : rv_N := (M.1, rf_toE M.2.1, M.2.2)
noncomputable def rf_g (F : rv_F) (i : Nat) : Option rv_E := bif Nat.ble (i + 1) F.1 then Option.rec (motive := fun _ => Option rv_E) (rv_gt F.2.1 F.2.2.1 i) (fun e => some e) (rf_oe F.2.2.2.1 i) else bif Nat.ble (i + 1) F.2.2.2.2.1 then rv_nth F.2.2.2.2.2 (F.2.2.2.2.1 - (i + 1)) else none
theorem rf_len {F : rv_F} (h : rf_I F) : (rf_toE F).length = F.2.2.2.2.1 := by
  unfold rf_toE
  rw [List.length_append, List.length_mapIdx, List.length_reverse, ← h.1, h.2.2]
theorem rv_bleF {a b : Nat} (h : Nat.ble a b = false) : ¬ a ≤ b := fun z => by rw [Nat.ble_eq_true_of_le z] at h; cases h
theorem rf_g_eq {F : rv_F} (h : rf_I F) (i : Nat) : rf_g F i = (rf_toE F)[i]? := by
  unfold rf_g rf_toE
  obtain ⟨h1, h2, h3⟩ := h
  cases hb : Nat.ble (i + 1) F.1 with
  | true =>
    have hb : i + 1 ≤ F.1 := Nat.le_of_ble_eq_true hb
    simp only [cond_true]
    rw [List.getElem?_append_left (by rw [List.length_mapIdx]; omega), List.getElem?_mapIdx, h2]
    have hl : i < F.2.2.1.length := by omega
    rw [List.getElem?_eq_getElem hl]
    cases rf_oe F.2.2.2.1 i <;> rfl
  | false =>
    have hb := rv_bleF hb
    simp only [cond_false]
    cases hn : Nat.ble (i + 1) F.2.2.2.2.1 with
    | true =>
      have hn : i + 1 ≤ F.2.2.2.2.1 := Nat.le_of_ble_eq_true hn
      simp only [cond_true]
      rw [rv_nth_eq, List.getElem?_append_right (by rw [List.length_mapIdx]; omega), List.length_mapIdx, List.getElem?_reverse (by omega)]
      congr 1
      omega
    | false =>
      have hn := rv_bleF hn
      simp only [cond_false]
      rw [List.getElem?_eq_none_iff.mpr]
      rw [List.length_append, List.length_mapIdx, List.length_reverse]
      omega
def rf_p (F : rv_F) (e : rv_E) : rv_F := (F.1, F.2.1, F.2.2.1, F.2.2.2.1, F.2.2.2.2.1 + 1, e :: F.2.2.2.2.2)
theorem rf_p_I {F : rv_F} (h : rf_I F) (e : rv_E) : rf_I (rf_p F e) := ⟨h.1, h.2.1, by show F.2.2.2.2.1 + 1 = F.1 + (e :: F.2.2.2.2.2).length; rw [List.length_cons, h.2.2]; omega⟩
theorem rf_p_eq (F : rv_F) (e : rv_E) : rf_toE (rf_p F e) = rf_toE F ++ [e] := by
  unfold rf_toE rf_p
  dsimp only
  rw [List.reverse_cons, List.append_assoc]
noncomputable def rf_push {β : Type} (F : rv_F) (e : rv_E) (k : rv_F → β) : β := rv_fe e (fun e => rv_fn (F.2.2.2.2.1 + 1) (fun n => k (F.1, F.2.1, F.2.2.1, F.2.2.2.1, n, e :: F.2.2.2.2.2)))
theorem rf_push_eq {β : Type} (F : rv_F) (e : rv_E) (k : rv_F → β) : rf_push F e k = k (rf_p F e) := by
  unfold rf_push
  rw [rv_fe_eq, rv_fn_eq]
  rfl
noncomputable def rf_setR (l : List rv_E) : Nat → rv_E → List rv_E := List.rec (motive := fun _ => Nat → rv_E → List rv_E) (fun _ _ => []) (fun a t ih i e => Nat.rec (motive := fun _ => List rv_E) (e :: t) (fun k _ => a :: ih k e) i) l
theorem rf_setR_eq : ∀ (l : List rv_E) (i : Nat) (e : rv_E), rf_setR l i e = l.set i e
  | [], _, _ => rfl
  | _ :: _, 0, _ => rfl
  | a :: l, i + 1, e => congrArg (a :: ·) (rf_setR_eq l i e)
noncomputable def rf_s (F : rv_F) (i : Nat) (e : rv_E) : rv_F := bif Nat.ble (i + 1) F.1 then (F.1, F.2.1, F.2.2.1, (i, e) :: F.2.2.2.1, F.2.2.2.2) else rv_fp (rf_setR F.2.2.2.2.2 (F.2.2.2.2.1 - (i + 1)) e) (fun N => (F.1, F.2.1, F.2.2.1, F.2.2.2.1, F.2.2.2.2.1, N))
theorem rf_s_ok {F : rv_F} (h : rf_I F) {i : Nat} (hi : i < F.2.2.2.2.1) (e : rv_E) : rf_toE (rf_s F i e) = (rf_toE F).set i e ∧ rf_I (rf_s F i e) := by
  obtain ⟨h1, h2, h3⟩ := h
  unfold rf_s
  cases hb : Nat.ble (i + 1) F.1 with
  | true =>
    have hb : i + 1 ≤ F.1 := Nat.le_of_ble_eq_true hb
    simp only [cond_true]
    refine ⟨?_, h1, h2, h3⟩
    unfold rf_toE
    dsimp only
    rw [List.set_append_left i e (by rw [List.length_mapIdx]; omega)]
    congr 1
    apply List.ext_getElem?
    intro j
    rw [List.getElem?_mapIdx, List.getElem?_set]
    by_cases hj : i = j
    · subst hj
      rw [if_pos rfl, List.length_mapIdx, if_pos (by omega)]
      have hl : i < F.2.2.1.length := by omega
      rw [List.getElem?_eq_getElem hl]
      show some ((bif Nat.beq i i then some e else rf_oe F.2.2.2.1 i).getD _) = some e
      rw [Nat.beq_refl]
      rfl
    · rw [if_neg hj, List.getElem?_mapIdx]
      have hbf : Nat.beq i j = false := by
        cases hz : Nat.beq i j with
        | false => rfl
        | true => exact absurd (Nat.eq_of_beq_eq_true hz) hj
      have e2 : rf_oe ((i, e) :: F.2.2.2.1) j = rf_oe F.2.2.2.1 j := by
        show (bif Nat.beq i j then some e else rf_oe F.2.2.2.1 j) = _
        rw [hbf]
        rfl
      rw [e2]
  | false =>
    have hb := rv_bleF hb
    simp only [cond_false]
    rw [rv_fp_eq, rf_setR_eq]
    refine ⟨?_, h1, h2, ?_⟩
    · unfold rf_toE
      dsimp only
      rw [List.set_append_right i e (by rw [List.length_mapIdx]; omega), List.length_mapIdx]
      congr 1
      apply List.ext_getElem?
      intro j
      by_cases hj : j < F.2.2.2.2.2.length
      · rw [List.getElem?_reverse (by rw [List.length_set]; exact hj), List.getElem?_set, List.getElem?_set, List.length_reverse, List.length_set]
        by_cases hq : i - F.2.2.1.length = j
        · rw [if_pos (by omega), if_pos (by omega), if_pos hq, if_pos (by omega)]
        · rw [if_neg (by omega), if_neg hq, List.getElem?_reverse hj]
      · rw [List.getElem?_eq_none_iff.mpr (by rw [List.length_reverse, List.length_set]; omega), List.getElem?_eq_none_iff.mpr (by rw [List.length_set, List.length_reverse]; omega)]
    · show F.2.2.2.2.1 = F.1 + (F.2.2.2.2.2.set _ e).length
      rw [List.length_set]
      exact h3
/-- a list of environments is one of lists -/
def rf_LS (Fs : List rv_F) (Es : List (List rv_E)) : Prop := Es = Fs.map rf_toE ∧ ∀ F ∈ Fs, rf_I F
def rf_OS (F : Option rv_F) (E : Option (List rv_E)) : Prop := match F, E with
  | some F, some E => E = rf_toE F ∧ rf_I F
  | none, none => True
  | _, _ => False
theorem rf_OS_LS {F : Option rv_F} {E : Option (List rv_E)} (h : rf_OS F E) : rf_LS F.toList E.toList := by
  cases F with
  | none => cases E with
    | none => exact ⟨rfl, fun _ h => by cases h⟩
    | some E => cases h
  | some F => cases E with
    | none => cases h
    | some E => exact ⟨by rw [h.1]; rfl, fun G hG => by rw [List.mem_singleton.mp hG]; exact h.2⟩
theorem rf_LS_app {a b : List rv_F} {c d : List (List rv_E)} (h1 : rf_LS a c) (h2 : rf_LS b d) : rf_LS (a ++ b) (c ++ d) := ⟨by rw [h1.1, h2.1, List.map_append], fun F hF => (List.mem_append.mp hF).elim (h1.2 F) (h2.2 F)⟩
noncomputable def rf_cut (F : rv_F) (i : Nat) (lo hi : Int) : Option rv_F := match rf_g F i with
  | some e => rv_fi (rv_max e.1 lo) (fun a => rv_fi (rv_min e.2.1 hi) (fun b => bif rv_le a b then some (rf_s F i (a, b, e.2.2)) else none))
  | none => none
theorem rf_cut_ok {F : rv_F} (h : rf_I F) (i : Nat) (lo hi : Int) : rf_OS (rf_cut F i lo hi) (rv_cut (rf_toE F) i lo hi) := by
  unfold rf_cut rv_cut
  rw [rf_g_eq h]
  cases hg : (rf_toE F)[i]? with
  | none => trivial
  | some e =>
    dsimp only
    rw [rv_fi_eq, rv_fi_eq]
    cases hc : rv_le (rv_max e.1 lo) (rv_min e.2.1 hi) with
    | false => trivial
    | true =>
      simp only [cond_true]
      have hl := (List.getElem?_eq_some_iff.mp hg).1
      rw [rf_len h] at hl
      obtain ⟨a1, a2⟩ := rf_s_ok h hl (rv_max e.1 lo, rv_min e.2.1 hi, e.2.2)
      exact ⟨a1.symm, a2⟩
theorem rf_bind_ok {F : Option rv_F} {E : Option (List rv_E)} (h : rf_OS F E) {f : rv_F → Option rv_F} {k : List rv_E → Option (List rv_E)} (hk : ∀ G, rf_I G → rf_OS (f G) (k (rf_toE G))) : rf_OS (F.bind f) (E.bind k) := by
  cases F with
  | none => cases E with
    | none => trivial
    | some E => cases h
  | some F => cases E with
    | none => cases h
    | some E =>
      obtain ⟨h1, h2⟩ := h
      subst h1
      exact hk F h2
noncomputable def rf_cmp (op : Nat) (F : rv_F) (x y : Nat) : Option rv_F := match rf_g F x, rf_g F y with
  | some a, some b => match op with
    | 0 => (rf_cut F x a.1 (b.2.1 - 1)).bind (fun E2 => rf_cut E2 y (a.1 + 1) b.2.1)
    | 1 => (rf_cut F x a.1 b.2.1).bind (fun E2 => rf_cut E2 y a.1 b.2.1)
    | 2 => (rf_cut F x b.1 b.2.1).bind (fun E2 => rf_cut E2 y a.1 a.2.1)
    | _ => bif rv_le b.2.1 b.1 && rv_le b.1 a.1 then rf_cut F x (b.1 + 1) rv_hi else bif rv_le b.2.1 b.1 && rv_le a.2.1 b.1 then rf_cut F x rv_lo (b.1 - 1) else some F
  | _, _ => none
theorem rf_cmp_ok {F : rv_F} (h : rf_I F) (op x y : Nat) : rf_OS (rf_cmp op F x y) (rv_cmp op (rf_toE F) x y) := by
  unfold rf_cmp rv_cmp
  rw [rf_g_eq h, rf_g_eq h]
  cases hx : (rf_toE F)[x]? with
  | none => trivial
  | some a =>
    cases hy : (rf_toE F)[y]? with
    | none => trivial
    | some b =>
      dsimp only
      match op with
      | 0 => exact rf_bind_ok (rf_cut_ok h _ _ _) (fun G hG => rf_cut_ok hG _ _ _)
      | 1 => exact rf_bind_ok (rf_cut_ok h _ _ _) (fun G hG => rf_cut_ok hG _ _ _)
      | 2 => exact rf_bind_ok (rf_cut_ok h _ _ _) (fun G hG => rf_cut_ok hG _ _ _)
      | op + 3 =>
        cases (rv_le b.2.1 b.1 && rv_le b.1 a.1) with
        | true => exact rf_cut_ok h _ _ _
        | false =>
          simp only [cond_false]
          cases (rv_le b.2.1 b.1 && rv_le a.2.1 b.1) with
          | true => exact rf_cut_ok h _ _ _
          | false => exact ⟨rfl, h⟩
noncomputable def rf_cT (sp : Bool) (cd : Jvm.ClassFile.Cond) (F : rv_F) (x y : Nat) : List rv_F := match cd with
  | .eq => (rf_cmp 2 F x y).toList
  | .ne => bif sp then (rf_cmp 0 F x y).toList ++ (rf_cmp 0 F y x).toList else (rf_cmp 3 F x y).toList
  | .lt => (rf_cmp 0 F x y).toList
  | .ge => (rf_cmp 1 F y x).toList
  | .gt => (rf_cmp 0 F y x).toList
  | .le => (rf_cmp 1 F x y).toList
theorem rf_cT_ok {F : rv_F} (h : rf_I F) (sp : Bool) (cd : Jvm.ClassFile.Cond) (x y : Nat) : rf_LS (rf_cT sp cd F x y) (rv_cT sp cd (rf_toE F) x y) := by
  cases cd with
  | eq => exact rf_OS_LS (rf_cmp_ok h _ _ _)
  | ne =>
    cases sp with
    | true => exact rf_LS_app (rf_OS_LS (rf_cmp_ok h _ _ _)) (rf_OS_LS (rf_cmp_ok h _ _ _))
    | false => exact rf_OS_LS (rf_cmp_ok h _ _ _)
  | lt => exact rf_OS_LS (rf_cmp_ok h _ _ _)
  | ge => exact rf_OS_LS (rf_cmp_ok h _ _ _)
  | gt => exact rf_OS_LS (rf_cmp_ok h _ _ _)
  | le => exact rf_OS_LS (rf_cmp_ok h _ _ _)
noncomputable def rf_cE (cd : Jvm.ClassFile.Cond) (x : Nat) (a : rv_E) (Fs : List rv_F) : List rv_F := match cd with
  | .eq => match rv_lk7 a.2.2.2.2 x with
    | some q => Fs.flatMap (fun E' => (rf_cmp 2 E' q.1 q.2).toList)
    | none => Fs
  | _ => Fs
theorem rf_cE_ok {Fs : List rv_F} {Es : List (List rv_E)} (h : rf_LS Fs Es) (cd : Jvm.ClassFile.Cond) (x : Nat) (a : rv_E) : rf_LS (rf_cE cd x a Fs) (rv_cE cd x a Es) := by
  unfold rf_cE rv_cE
  cases cd with
  | eq =>
    dsimp only
    cases rv_lk7 a.2.2.2.2 x with
    | none => exact h
    | some q =>
      dsimp only
      obtain ⟨h1, h2⟩ := h
      subst h1
      induction Fs with
      | nil => exact ⟨rfl, fun _ h => by cases h⟩
      | cons F r ih =>
        rw [List.flatMap_cons, List.map_cons, List.flatMap_cons]
        exact rf_LS_app (rf_OS_LS (rf_cmp_ok (h2 F List.mem_cons_self) _ _ _)) (ih (fun G hG => h2 G (List.mem_cons_of_mem _ hG)))
  | ne => exact h
  | lt => exact h
  | ge => exact h
  | gt => exact h
  | le => exact h
/-- the environment as a plain list -/
noncomputable def rf_mrg (C : List (Nat × rv_E)) (B : List rv_E) : Nat → List rv_E := List.rec (motive := fun _ => Nat → List rv_E) (fun _ => []) (fun e _ ih i => Option.rec (motive := fun _ => rv_E) e (fun z => z) (rf_oe C i) :: ih (i + 1)) B
theorem rf_mrg_eq (C : List (Nat × rv_E)) : ∀ (B : List rv_E) (i : Nat), rf_mrg C B i = B.mapIdx (fun j e => (rf_oe C (i + j)).getD e)
  | [], _ => rfl
  | e :: B, i => by
    rw [List.mapIdx_cons]
    show Option.rec (motive := fun _ => rv_E) e (fun z => z) (rf_oe C i) :: rf_mrg C B (i + 1) = _
    rw [rf_mrg_eq C B (i + 1), Nat.add_zero]
    have e1 : (fun (j : Nat) (e : rv_E) => (rf_oe C (i + 1 + j)).getD e) = (fun (j : Nat) (e : rv_E) => (rf_oe C (i + (j + 1))).getD e) := by
      funext j e
      rw [show i + 1 + j = i + (j + 1) by omega]
    rw [e1]
    congr 1
    cases rf_oe C i <;> rfl
noncomputable def rf_mat {β : Type} (F : rv_F) (k : List rv_E → β) : β := rv_fL rv_fe (rf_mrg F.2.2.2.1 F.2.2.1 0 ++ F.2.2.2.2.2.reverse) k
theorem rf_mat_eq {β : Type} (F : rv_F) (k : List rv_E → β) : rf_mat F k = k (rf_toE F) := by
  unfold rf_mat
  rw [rv_fL_eq rv_fe_eq, rf_mrg_eq]
  unfold rf_toE
  congr 2
  simp only [Nat.zero_add]
noncomputable def rf_of (E : List rv_E) : rv_F := (E.length, rv_sfx 24 E, E, [], E.length, [])
theorem rf_of_I (E : List rv_E) : rf_I (rf_of E) := ⟨rfl, rv_gt_eq 24 E, rfl⟩
theorem rf_oe_nil (i : Nat) : rf_oe [] i = none := rfl
theorem rf_of_eq (E : List rv_E) : rf_toE (rf_of E) = E := by
  unfold rf_toE rf_of
  dsimp only
  rw [List.reverse_nil, List.append_nil]
  apply List.ext_getElem?
  intro i
  rw [List.getElem?_mapIdx]
  cases E[i]? <;> rfl
noncomputable def rf_ofK {β : Type} (E : List rv_E) (k : rv_F → β) : β := rv_fn E.length (fun n => k (n, rv_sfx 24 E, E, [], n, []))
theorem rf_ofK_eq {β : Type} (E : List rv_E) (k : rv_F → β) : rf_ofK E k = k (rf_of E) := by
  unfold rf_ofK
  rw [rv_fn_eq]
  rfl
