/-! directives: at a place, a bound of a value that the rules give, cut -/
abbrev rv_Dt := Nat × (Nat × Nat × Nat) × Bool × Int
def rv_i0 (a : Option rv_V) : Option Nat := match a with
  | some a => bif Nat.beq a.1 0 then some a.2 else none
  | none => none
def rv_src (N : rv_N) (q : Nat × Nat × Nat) : Option Nat := match q.1 with
  | 0 => rv_i0 (rv_lk N.2.2.1 q.2.1)
  | 1 => rv_i0 (N.2.2.2.1[q.2.1]?)
  | _ => match N.2.2.2.2.1[q.2.1]? with
    | some (.inl o) => rv_i0 (o.2[q.2.2]?)
    | some (.inr a) => rv_tr a.2.2.2.2.1 q.2.2
    | none => none
def rv_dirE (RL : List rv_Rl) (E : List rv_E) (x : Nat) (up : Bool) (k : Int) : Option (Option (List rv_E)) := match E[x]? with
  | some _ => bif up then (bif rv_der RL (E ++ [(k, k, E.length, 0, [])]) (rv_fl E) 3 (2, [x, E.length]) then some (rv_cmp 1 (E ++ [(k, k, E.length, 0, [])]) x E.length) else none)
    else (bif rv_der RL (E ++ [(k, k, E.length, 0, [])]) (rv_fl E) 3 (2, [E.length, x]) then some (rv_cmp 1 (E ++ [(k, k, E.length, 0, [])]) E.length x) else none)
  | none => none
/-- a place of an array gets an id of its own -/
def rv_intro (N : rv_N) (k j : Nat) : rv_N := match N.2.2.2.2.1[k]? with
  | some (.inr a) => match rv_tr a.2.2.2.2.1 j with
    | none => (N.1, N.2.1 ++ [(a.2.2.1, a.2.2.2.1, N.2.1.length, 0, [])], N.2.2.1, N.2.2.2.1, N.2.2.2.2.1.set k (.inr (a.1, a.2.1, a.2.2.1, a.2.2.2.1, (j, N.2.1.length) :: a.2.2.2.2.1, a.2.2.2.2.2)), N.2.2.2.2.2)
    | some _ => N
  | _ => N
/-- none: no state is so -/
def rv_dir (RL : List rv_Rl) (N : rv_N) (d : rv_Dt) : Option rv_N := bif Nat.beq d.1 N.1 then (bif Nat.beq d.2.1.1 7 then some (rv_intro N d.2.1.2.1 d.2.1.2.2) else match rv_src N d.2.1 with
  | some x => match rv_dirE RL N.2.1 x d.2.2.1 d.2.2.2 with
    | some (some E2) => some (N.1, E2, N.2.2)
    | some none => none
    | none => some N
  | none => some N) else some N
def rv_dirs (RL : List rv_Rl) (N : rv_N) (ds : List rv_Dt) : Option rv_N := match ds with
  | [] => some N
  | d :: r => match rv_dir RL N d with
    | some N' => rv_dirs RL N' r
    | none => none
def rv_hasD (ds : List rv_Dt) (pc : Nat) : Bool := match ds with
  | [] => false
  | d :: r => bif Nat.beq d.1 pc then true else rv_hasD r pc
section
variable {p : Program} {l : Launch} {e : Env} {R : Room} {s : State} {m : MethodId} {args : Array Value} {below : List Frame} {meth : Method} {c : Code} {Q : State → Prop} {D : va_G} {cl : List vw_C} {A : Nat → Prop} {cy : Nat → ClassId} {nL : Nat} {ρ : rv_Ho} {g : rv_G} {E : List rv_E} {L : List (Nat × rv_V)} {K : List rv_V} {X : List rv_C} {ls : Array Slot} {H : Heap} {locs : List Loc}
theorem rv_R.cmp1 {H0 : Heap} (R : rv_R D cl A H0 cy nL ρ g E L K X ls H locs) {x y : Nat} (hx : x < E.length) (hy : y < E.length) (h : g.1 x ≤ g.1 y) : ∃ E', rv_cmp 1 E x y = some E' ∧ E'.length = E.length ∧ rv_R D cl A H0 cy nL ρ g E' L K X ls H locs := by
  have hgx : E[x]? = some E[x] := List.getElem?_eq_getElem hx
  have hgy : E[y]? = some E[y] := List.getElem?_eq_getElem hy
  obtain ⟨a1, a2, -⟩ := R.1 x _ hgx
  obtain ⟨b1, b2, -⟩ := R.1 y _ hgy
  unfold rv_cmp
  rw [hgx, hgy]
  obtain ⟨E1, e1, l1, R1⟩ := R.cut hx (lo := E[x].1) (hi := E[y].2.1) (by omega) (by omega)
  obtain ⟨E2, e2, l2, R2⟩ := R1.cut (i := y) (lo := E[x].1) (hi := E[y].2.1) (by omega) (by omega) (by omega)
  exact ⟨E2, by simp only [e1, Option.bind_some]; exact e2, by omega, R2⟩
theorem rv_intro_ok {N : rv_N} {k j : Nat} (ok : rv_OkN p l e R s m args below meth c Q D cl A cy nL ρ (rv_intro N k j)) : rv_OkN p l e R s m args below meth c Q D cl A cy nL ρ N := by
  unfold rv_intro at ok
  split at ok
  · rename_i a ha
    split at ok
    · rename_i hn
      intro g ls H locs RR
      obtain ⟨b1, b2⟩ := (RR.2.1 k a ha j).2 hn
      have R1 := RR.fresh (z := g.2.2.1 a.2.2.2.2.2 j) (lo := a.2.2.1) (hi := a.2.2.2.1) (base := N.2.1.length) (off := 0) (f := fun _ => 0) (fs := []) b1 b2 (Or.inl ⟨rfl, rfl⟩) rv_fs_nil
      have hag := rv_up_ag g N.2.1.length N.2.2.2.2.1.length (g.2.2.1 a.2.2.2.2.2 j) (fun _ => 0)
      have hoc := RR.2.2.1.2.2.2 _ (List.mem_of_getElem? ha)
      have hkl : k < N.2.2.2.2.1.length := (List.getElem?_eq_some_iff.mp ha).1
      obtain ⟨he, hx, ⟨w1, w2, w3, w4⟩, hh, hl, hP, hD, hS⟩ := R1
      have hlen : (N.2.1 ++ [(a.2.2.1, a.2.2.2.1, N.2.1.length, (0 : Int), ([] : List rv_Fc))]).length = N.2.1.length + 1 := by simp
      have ew : rv_w cy (rv_up g N.2.1.length (g.2.2.1 a.2.2.2.2.2 j) (fun _ => 0)) (N.2.2.2.2.1.set k (.inr (a.1, a.2.1, a.2.2.1, a.2.2.2.1, (j, N.2.1.length) :: a.2.2.2.2.1, a.2.2.2.2.2))) = rv_w cy (rv_up g N.2.1.length (g.2.2.1 a.2.2.2.2.2 j) (fun _ => 0)) N.2.2.2.2.1 := by
        apply List.ext_getElem?
        intro q
        unfold rv_w
        rw [List.getElem?_mapIdx, List.getElem?_mapIdx]
        by_cases hq : q = k
        · subst hq
          rw [List.getElem?_set_self hkl, ha]
          rfl
        · rw [List.getElem?_set_ne (Ne.symm hq)]
      have h3 := ok _ ls H locs ⟨he, (fun q b hq => by
        by_cases hqk : q = k
        · subst hqk
          rw [List.getElem?_set_self hkl] at hq
          have hq := Sum.inr.inj (Option.some.inj hq)
          subst hq
          intro j2
          have h0 := hx q a ha j2
          dsimp only
          unfold rv_tr
          cases hb : Nat.beq j j2 with
          | true =>
            have hb := Nat.eq_of_beq_eq_true hb
            subst hb
            simp only [cond_true]
            refine ⟨fun i hi => ?_, fun h => by cases h⟩
            have hi := Option.some.inj hi
            subst hi
            rw [rv_up_self, hag.2.2.1 _ hoc.2]
          | false =>
            simp only [cond_false]
            exact h0
        · rw [List.getElem?_set_ne (Ne.symm hqk)] at hq
          exact hx q b hq), ⟨w1, by rw [List.length_set]; exact w2, by rw [List.length_set]; exact w3, by
            rw [List.length_set]
            intro cd hc2
            rcases List.mem_or_eq_of_mem_set hc2 with h | h
            · exact w4 cd h
            · rw [h, hlen]
              refine ⟨fun z hz => ?_, Nat.lt_succ_of_lt hoc.2⟩
              rcases List.mem_cons.mp hz with h5 | h5
              · rw [h5]; exact Nat.lt_succ_self _
              · exact Nat.lt_succ_of_lt (hoc.1 z h5)⟩, by rw [List.length_set]; exact hh, hl, by rw [ew]; exact hP, by rw [ew]; exact hD, hS⟩
      rw [rv_K_ag hag RR.kK] at h3
      exact h3
    · exact ok
  · exact ok
theorem rv_dir_ok {RL : List rv_Rl} (hRL : ∀ r ∈ RL, rv_RlOk r) {N : rv_N} {d : rv_Dt} (ok : ∀ N', rv_dir RL N d = some N' → rv_OkN p l e R s m args below meth c Q D cl A cy nL ρ N') : rv_OkN p l e R s m args below meth c Q D cl A cy nL ρ N := by
  unfold rv_dir at ok
  cases hd : Nat.beq d.1 N.1 with
  | false => rw [hd] at ok; exact ok N rfl
  | true =>
    rw [hd] at ok
    simp only [cond_true] at ok
    cases h7 : Nat.beq d.2.1.1 7 with
    | true =>
      rw [h7] at ok
      exact rv_intro_ok (ok _ rfl)
    | false =>
    rw [h7] at ok
    simp only [cond_false] at ok
    split at ok
    · rename_i x hx
      cases ha : N.2.1[x]? with
      | none =>
        have e0 : rv_dirE RL N.2.1 x d.2.2.1 d.2.2.2 = none := by unfold rv_dirE; rw [ha]
        rw [e0] at ok
        exact ok N rfl
      | some a =>
        intro g ls H locs RR
        have hxl : x < N.2.1.length := (List.getElem?_eq_some_iff.mp ha).1
        have R1 := RR.fresh (z := d.2.2.2) (lo := d.2.2.2) (hi := d.2.2.2) (base := N.2.1.length) (off := 0) (f := fun _ => 0) (fs := []) (Int.le_refl _) (Int.le_refl _) (Or.inl ⟨rfl, rfl⟩) rv_fs_nil
        have hag := rv_up_ag g N.2.1.length N.2.2.2.2.1.length d.2.2.2 (fun _ => 0)
        have hlen : (N.2.1 ++ [(d.2.2.2, d.2.2.2, N.2.1.length, (0 : Int), ([] : List rv_Fc))]).length = N.2.1.length + 1 := by simp
        have hFL : ∀ f ∈ rv_fl N.2.1, rv_Φ f.1 (f.2.map (rv_z (rv_up g N.2.1.length d.2.2.2 (fun _ => 0)))) := by
          intro f hf
          obtain ⟨e1, m1, m2⟩ := rv_fl_mem hf
          obtain ⟨i, hi⟩ := List.getElem?_of_mem m1
          have h4 := (RR.1 i e1 hi).2.2.2 f m2
          rw [rv_zs_ag hag h4.1]
          exact h4.2
        have fin : ∀ E2, (∃ E', rv_R D cl A s.heap cy nL ρ (rv_up g N.2.1.length d.2.2.2 (fun _ => 0)) E' N.2.2.1 N.2.2.2.1 N.2.2.2.2.1 ls H locs ∧ E' = E2) → rv_OkN p l e R s m args below meth c Q D cl A cy nL ρ (N.1, E2, N.2.2) → W p l e R s m args below meth c H locs N.2.2.2.2.2.1 N.2.2.2.2.2.2 Q (F0 m N.1 ls (N.2.2.2.1.map (rv_v g))) := by
          intro E2 ⟨E', R', e1⟩ ok
          subst e1
          have h3 := ok _ ls H locs R'
          rw [rv_K_ag hag RR.kK] at h3
          exact h3
        cases hE2 : rv_dirE RL N.2.1 x d.2.2.1 d.2.2.2 with
        | none => rw [hE2] at ok; exact ok N rfl g ls H locs RR
        | some o =>
          unfold rv_dirE at hE2
          rw [ha] at hE2
          dsimp only at hE2
          have key : ∃ E', o = some E' ∧ rv_R D cl A s.heap cy nL ρ (rv_up g N.2.1.length d.2.2.2 (fun _ => 0)) E' N.2.2.1 N.2.2.2.1 N.2.2.2.2.1 ls H locs := by
            cases hu : d.2.2.1 with
            | true =>
              rw [hu] at hE2
              simp only [cond_true] at hE2
              cases hq : rv_der RL (N.2.1 ++ [(d.2.2.2, d.2.2.2, N.2.1.length, 0, [])]) (rv_fl N.2.1) 3 (2, [x, N.2.1.length]) with
              | false => rw [hq] at hE2; cases hE2
              | true =>
                rw [hq] at hE2
                simp only [cond_true] at hE2
                have h5 := rv_der_ok R1.1 hRL hFL 3 _ hq
                obtain ⟨E', q1, -, q2⟩ := R1.cmp1 (x := x) (y := N.2.1.length) (by omega) (by omega) h5
                exact ⟨E', (Option.some.inj hE2).symm.trans q1, q2⟩
            | false =>
              rw [hu] at hE2
              simp only [cond_false] at hE2
              cases hq : rv_der RL (N.2.1 ++ [(d.2.2.2, d.2.2.2, N.2.1.length, 0, [])]) (rv_fl N.2.1) 3 (2, [N.2.1.length, x]) with
              | false => rw [hq] at hE2; cases hE2
              | true =>
                rw [hq] at hE2
                simp only [cond_true] at hE2
                have h5 := rv_der_ok R1.1 hRL hFL 3 _ hq
                obtain ⟨E', q1, -, q2⟩ := R1.cmp1 (x := N.2.1.length) (y := x) (by omega) (by omega) h5
                exact ⟨E', (Option.some.inj hE2).symm.trans q1, q2⟩
          obtain ⟨E', e1, R'⟩ := key
          have e2 : rv_dirE RL N.2.1 x d.2.2.1 d.2.2.2 = some (some E') := by
            unfold rv_dirE
            rw [ha]
            dsimp only
            rw [hE2, e1]
          rw [e2] at ok
          exact fin E' ⟨E', R', rfl⟩ (ok _ rfl)
    · exact ok N rfl
theorem rv_dirs_ok {RL : List rv_Rl} (hRL : ∀ r ∈ RL, rv_RlOk r) : ∀ {ds : List rv_Dt} {N : rv_N}, (∀ N', rv_dirs RL N ds = some N' → rv_OkN p l e R s m args below meth c Q D cl A cy nL ρ N') → rv_OkN p l e R s m args below meth c Q D cl A cy nL ρ N
  | [], N, ok => ok N rfl
  | d :: r, N, ok => by
    refine rv_dir_ok (d := d) hRL fun N' h => rv_dirs_ok (ds := r) hRL fun N2 h2 => ok N2 ?_
    unfold rv_dirs
    rw [h]
    exact h2
end
