/-! directives: at a place, a bound of a value that the rules give, cut -/
abbrev rv_Dt := Nat × (Nat × Nat × Nat) × Bool × Int
def rv_i0 (a : Option rv_V) : Option Nat := match a with
  | some a => bif Nat.beq a.1 0 then some a.2 else none
  | none => none
def rv_src (N : rv_N) (q : Nat × Nat × Nat) : Option Nat := match q.1 with
  | 0 => rv_i0 (rv_lk N.2.2.1 q.2.1)
  | 1 => rv_i0 (N.2.2.2.1[q.2.1]?)
  | _ => match N.2.2.2.2.1[q.2.1]? with
    | some (.inl o) => rv_i0 (o.2[q.2.2]?)
    | some (.inr a) => rv_tr a.2.2.2.2.1 q.2.2
    | none => none
def rv_dirE (RL : List rv_Rl) (E : List rv_E) (x : Nat) (up : Bool) (k : Int) : Option (List rv_E) := match E[x]? with
  | some _ => bif up then (bif rv_der RL (E ++ [(k, k, E.length, 0, [])]) (rv_fl E) 3 (2, [x, E.length]) then rv_cmp 1 (E ++ [(k, k, E.length, 0, [])]) x E.length else none)
    else (bif rv_der RL (E ++ [(k, k, E.length, 0, [])]) (rv_fl E) 3 (2, [E.length, x]) then rv_cmp 1 (E ++ [(k, k, E.length, 0, [])]) E.length x else none)
  | none => none
def rv_dir (RL : List rv_Rl) (N : rv_N) (d : rv_Dt) : rv_N := bif Nat.beq d.1 N.1 then (match rv_src N d.2.1 with
  | some x => (match rv_dirE RL N.2.1 x d.2.2.1 d.2.2.2 with
    | some E2 => (N.1, E2, N.2.2)
    | none => N)
  | none => N) else N
def rv_dirs (RL : List rv_Rl) (N : rv_N) (ds : List rv_Dt) : rv_N := match ds with
  | [] => N
  | d :: r => rv_dirs RL (rv_dir RL N d) r
def rv_hasD (ds : List rv_Dt) (pc : Nat) : Bool := match ds with
  | [] => false
  | d :: r => bif Nat.beq d.1 pc then true else rv_hasD r pc
section
variable {p : Program} {l : Launch} {e : Env} {R : Room} {s : State} {m : MethodId} {args : Array Value} {below : List Frame} {meth : Method} {c : Code} {Q : State → Prop} {D : va_G} {cl : List vw_C} {A : Nat → Prop} {cy : Nat → ClassId} {nL : Nat} {ρ : rv_Ho} {g : rv_G} {E : List rv_E} {L : List (Nat × rv_V)} {K : List rv_V} {X : List rv_C} {ls : Array Slot} {H : Heap} {locs : List Loc}
theorem rv_R.cmp1 {H0 : Heap} (R : rv_R D cl A H0 cy nL ρ g E L K X ls H locs) {x y : Nat} (hx : x < E.length) (hy : y < E.length) (h : g.1 x ≤ g.1 y) : ∃ E', rv_cmp 1 E x y = some E' ∧ E'.length = E.length ∧ rv_R D cl A H0 cy nL ρ g E' L K X ls H locs := by
  have hgx : E[x]? = some E[x] := List.getElem?_eq_getElem hx
  have hgy : E[y]? = some E[y] := List.getElem?_eq_getElem hy
  obtain ⟨a1, a2, -⟩ := R.1 x _ hgx
  obtain ⟨b1, b2, -⟩ := R.1 y _ hgy
  unfold rv_cmp
  rw [hgx, hgy]
  obtain ⟨E1, e1, l1, R1⟩ := R.cut hx (lo := E[x].1) (hi := E[y].2.1) (by omega) (by omega)
  obtain ⟨E2, e2, l2, R2⟩ := R1.cut (i := y) (lo := E[x].1) (hi := E[y].2.1) (by omega) (by omega) (by omega)
  exact ⟨E2, by simp only [e1, Option.bind_some]; exact e2, by omega, R2⟩
theorem rv_dir_ok {RL : List rv_Rl} (hRL : ∀ r ∈ RL, rv_RlOk r) {N : rv_N} {d : rv_Dt} (ok : rv_OkN p l e R s m args below meth c Q D cl A cy nL ρ (rv_dir RL N d)) : rv_OkN p l e R s m args below meth c Q D cl A cy nL ρ N := by
  unfold rv_dir at ok
  cases hd : Nat.beq d.1 N.1 with
  | false => rw [hd] at ok; exact ok
  | true =>
    rw [hd] at ok
    simp only [cond_true] at ok
    split at ok
    · rename_i x hx
      split at ok
      · rename_i E2 hE2
        intro g ls H locs RR
        unfold rv_dirE at hE2
        split at hE2
        · rename_i a ha
          have hxl : x < N.2.1.length := (List.getElem?_eq_some_iff.mp ha).1
          have R1 := RR.fresh (z := d.2.2.2) (lo := d.2.2.2) (hi := d.2.2.2) (base := N.2.1.length) (off := 0) (f := fun _ => 0) (fs := []) (Int.le_refl _) (Int.le_refl _) (Or.inl ⟨rfl, rfl⟩) rv_fs_nil
          have hag := rv_up_ag g N.2.1.length N.2.2.2.2.1.length d.2.2.2 (fun _ => 0)
          have hlen : (N.2.1 ++ [(d.2.2.2, d.2.2.2, N.2.1.length, (0 : Int), ([] : List rv_Fc))]).length = N.2.1.length + 1 := by simp
          have hFL : ∀ f ∈ rv_fl N.2.1, rv_Φ f.1 (f.2.map (rv_z (rv_up g N.2.1.length d.2.2.2 (fun _ => 0)))) := by
            intro f hf
            obtain ⟨e1, m1, m2⟩ := rv_fl_mem hf
            obtain ⟨i, hi⟩ := List.getElem?_of_mem m1
            have h4 := (RR.1 i e1 hi).2.2.2 f m2
            rw [rv_zs_ag hag h4.1]
            exact h4.2
          have fin : ∀ E2, (∃ E', rv_R D cl A s.heap cy nL ρ (rv_up g N.2.1.length d.2.2.2 (fun _ => 0)) E' N.2.2.1 N.2.2.2.1 N.2.2.2.2.1 ls H locs ∧ E' = E2) → rv_OkN p l e R s m args below meth c Q D cl A cy nL ρ (N.1, E2, N.2.2) → W p l e R s m args below meth c H locs N.2.2.2.2.2.1 N.2.2.2.2.2.2 Q (F0 m N.1 ls (N.2.2.2.1.map (rv_v g))) := by
            intro E2 ⟨E', R', e1⟩ ok
            subst e1
            have h3 := ok _ ls H locs R'
            rw [rv_K_ag hag RR.kK] at h3
            exact h3
          cases hu : d.2.2.1 with
          | true =>
            rw [hu] at hE2
            simp only [cond_true] at hE2
            cases hq : rv_der RL (N.2.1 ++ [(d.2.2.2, d.2.2.2, N.2.1.length, 0, [])]) (rv_fl N.2.1) 3 (2, [x, N.2.1.length]) with
            | false => rw [hq] at hE2; cases hE2
            | true =>
              rw [hq] at hE2
              simp only [cond_true] at hE2
              have h5 := rv_der_ok R1.1 hRL hFL 3 _ hq
              obtain ⟨E', q1, -, q2⟩ := R1.cmp1 (x := x) (y := N.2.1.length) (by omega) (by omega) h5
              exact fin E2 ⟨E', q2, Option.some.inj (q1.symm.trans hE2)⟩ ok
          | false =>
            rw [hu] at hE2
            simp only [cond_false] at hE2
            cases hq : rv_der RL (N.2.1 ++ [(d.2.2.2, d.2.2.2, N.2.1.length, 0, [])]) (rv_fl N.2.1) 3 (2, [N.2.1.length, x]) with
            | false => rw [hq] at hE2; cases hE2
            | true =>
              rw [hq] at hE2
              simp only [cond_true] at hE2
              have h5 := rv_der_ok R1.1 hRL hFL 3 _ hq
              obtain ⟨E', q1, -, q2⟩ := R1.cmp1 (x := N.2.1.length) (y := x) (by omega) (by omega) h5
              exact fin E2 ⟨E', q2, Option.some.inj (q1.symm.trans hE2)⟩ ok
        · cases hE2
      · exact ok
    · exact ok
theorem rv_dirs_ok {RL : List rv_Rl} (hRL : ∀ r ∈ RL, rv_RlOk r) : ∀ {ds : List rv_Dt} {N : rv_N}, rv_OkN p l e R s m args below meth c Q D cl A cy nL ρ (rv_dirs RL N ds) → rv_OkN p l e R s m args below meth c Q D cl A cy nL ρ N
  | [], _, ok => ok
  | _ :: _, _, ok => rv_dir_ok hRL (rv_dirs_ok hRL ok)
end
