/-! contracts over symbolic states -/
abbrev rv_K := List (Int × Int) × List rv_V × List rv_C × List (Int × Int) × Option rv_V × List rv_C × Nat × Nat
def rv_bd (g : rv_G) (n : Nat) (bs : List (Int × Int)) : Prop := ∀ (i : Nat) (b : Int × Int), bs[i]? = some b → b.1 ≤ g.1 (n + i) ∧ g.1 (n + i) ≤ b.2
def rv_pre (g : rv_G) (K : rv_K) : Prop := rv_bd g 0 K.1 ∧ rv_x g K.2.2.1
def rv_post (g h : rv_G) (K : rv_K) : Prop := (∀ i, i < K.1.length → h.1 i = g.1 i) ∧ (∀ k, k < K.2.2.1.length → h.2.1 k = g.2.1 k) ∧ rv_bd h K.1.length K.2.2.2.1 ∧ rv_x h K.2.2.2.2.2.1
def rv_wfK (K : rv_K) : Bool := K.2.1.all (rv_okb K.1.length K.2.2.1.length) && (K.2.2.1.all (rv_okcb K.1.length K.2.2.1.length) && ((K.2.2.2.2.1.toList).all (rv_okb (K.1.length + K.2.2.2.1.length) K.2.2.2.2.2.1.length) && (K.2.2.2.2.2.1.all (rv_okcb (K.1.length + K.2.2.2.1.length) K.2.2.2.2.2.1.length) && Nat.ble K.2.2.1.length K.2.2.2.2.2.1.length)))
def rv_NWs (NW : List (String × Nat × MethodName × String)) (U : State) : Prop := ∀ q ∈ NW, va_Nw (.methodLinkNest q.1 q.2.1 q.2.2.1 q.2.2.2) U
def rv_B (NW : List (String × Nat × MethodName × String)) (D : va_G) (cl : List vw_C) (cy : Nat → ClassId) (g : rv_G) (X : List rv_C) (sz : Nat) : State → Prop := fun U => U.heap.size = sz ∧ va_P D cl (rv_w cy g X) U.heap ∧ va_K D cl (rv_tys cy) U ∧ va_D (fun _ => True) (rv_w cy g X) ∧ rv_NWs NW U
def rv_Qc (D : va_G) (cl : List vw_C) (cy : Nat → ClassId) (g : rv_G) (K : rv_K) (A : Nat → Prop) : Array Value → State → Outcome → State → Prop := fun _ st oc t => (∃ h : rv_G, rv_post g h K ∧ oc = .returned (K.2.2.2.2.1.map (rv_v h)) ∧ va_P D cl (rv_w cy h K.2.2.2.2.2.1) t.heap ∧ va_D A (rv_w cy h K.2.2.2.2.2.1)) ∧ va_F A st t
def rv_Met (NW : List (String × Nat × MethodName × String)) (l : Launch) (D : va_G) (cl : List vw_C) (cy : Nat → ClassId) (y : MethodName) (ws : List Jvm.Cond) (rm : Room) (K : rv_K) : Prop := ∀ (g : rv_G) (sz : Nat), rv_pre g K → Met l y ws rm (va_Pc (K.2.1.map (rv_v g)) (rv_B NW D cl cy g K.2.2.1 sz)) (rv_Qc D cl cy g K (va_A (rv_w cy g K.2.2.1) sz)) K.2.2.2.2.2.2.1 K.2.2.2.2.2.2.2 (va_A (rv_w cy g K.2.2.1) sz)
def rv_CallOk (p : Program) (l : Launch) (e : Env) (R : Room) (s : State) (m : MethodId) (args : Array Value) (below : List Frame) (meth : Method) (c : Code) (Q : State → Prop) (D : va_G) (cl : List vw_C) (A : Nat → Prop) (cy : Nat → ClassId) (nL : Nat) (pc : Nat) (K : rv_K) : Prop :=
  ∀ (g : rv_G) (ls : Array Slot) (H : Heap) (locs : List Loc) (cn sn : Nat) (rest : List Value), ls.size = nL → rv_pre g K → va_P D cl (rv_w cy g K.2.2.1) H → va_D A (rv_w cy g K.2.2.1) → va_S A s.heap H locs → (rest.map fun v => v.category).sum ≤ 8 → cn + K.2.2.2.2.2.2.1 ≤ R.cells → sn + K.2.2.2.2.2.2.2 ≤ R.slots →
    (∀ (h : rv_G) (H1 : Heap) (locs1 : List Loc), rv_post g h K → va_P D cl (rv_w cy h K.2.2.2.2.2.1) H1 → va_D A (rv_w cy h K.2.2.2.2.2.1) → va_S A s.heap H1 locs1 → W p l e R s m args below meth c H1 locs1 (cn + K.2.2.2.2.2.2.1) (sn + K.2.2.2.2.2.2.2) Q (F0 m (pc + 3) ls ((K.2.2.2.2.1.map (rv_v h)).toList ++ rest))) →
    W p l e R s m args below meth c H locs cn sn Q (F0 m pc ls ((K.2.1.map (rv_v g)).reverse ++ rest))
/-- agreement on ids and addresses alone -/
theorem rv_v_ag2 {g g' : rv_G} {n N : Nat} (h1 : ∀ i, i < n → g'.1 i = g.1 i) (h2 : ∀ k, k < N → g'.2.1 k = g.2.1 k) {a : rv_V} (ha : rv_ok n N a) : rv_v g' a = rv_v g a := by
  obtain ⟨k, i⟩ := a
  match k with
  | 0 => show Value.int (Int32.ofInt (g'.1 i)) = Value.int (Int32.ofInt (g.1 i)); rw [h1 i (ha.1 (by show _ < 2; omega))]
  | 1 => show Value.long (Int64.ofInt (g'.1 i)) = Value.long (Int64.ofInt (g.1 i)); rw [h1 i (ha.1 (by show _ < 2; omega))]
  | 2 => show Value.ref (g'.2.1 i) = Value.ref (g.2.1 i); rw [h2 i (ha.2 rfl)]
  | k + 3 => rfl
def rv_rn (σ : List Nat) (n e t : Nat) : Nat := bif Nat.ble (t + 1) n then σ.getD t 0 else e + (t - n)
def rv_rnV (σ : List Nat) (n e : Nat) (a : rv_V) : rv_V := bif Nat.ble a.1 1 then (a.1, rv_rn σ n e a.2) else a
def rv_rnC (σ : List Nat) (n e : Nat) (c : rv_C) : rv_C := match c with
  | .inl o => .inl (o.1, o.2.map (rv_rnV σ n e))
  | .inr a => .inr (a.1, a.2.1, a.2.2.1, a.2.2.2.1, a.2.2.2.2.map (fun q => (q.1, rv_rn σ n e q.2)))
theorem rv_tr_map {σ : List Nat} {n e : Nat} : ∀ (t : List (Nat × Nat)) (j : Nat), rv_tr (t.map (fun q => (q.1, rv_rn σ n e q.2))) j = (rv_tr t j).map (rv_rn σ n e)
  | [], _ => rfl
  | q :: r, j => by
    show rv_tr ((q.1, rv_rn σ n e q.2) :: r.map _) j = _
    unfold rv_tr
    cases h : Nat.beq q.1 j with
    | true => rfl
    | false => simp only [h, cond_false]; exact rv_tr_map r j
def rv_call (K : rv_K) (ce sl : Nat) (pc : Nat) (E : List rv_E) (L : List (Nat × rv_V)) (St : List rv_V) (X : List rv_C) (cn sn : Nat) : Option rv_N := match rv_mX E [] K.2.2.1 X with
  | some σ1 => match rv_mV E σ1 K.2.1 (St.take K.2.1.length).reverse with
    | some σ => bif rv_mE E K.1 σ && (Nat.ble (rv_catS (St.drop K.2.1.length)) 8 && (Nat.ble (cn + K.2.2.2.2.2.2.1) ce && Nat.ble (sn + K.2.2.2.2.2.2.2) sl)) then
        some (pc + 3, E ++ rv_env E.length K.2.2.2.1, L, (K.2.2.2.2.1.map (rv_rnV σ K.1.length E.length)).toList ++ St.drop K.2.1.length, K.2.2.2.2.2.1.map (rv_rnC σ K.1.length E.length), cn + K.2.2.2.2.2.2.1, sn + K.2.2.2.2.2.2.2) else none
    | none => none
  | none => none
section
variable {p : Program} {l : Launch} {e : Env} {R : Room} {s : State} {m : MethodId} {args : Array Value} {below : List Frame} {meth : Method} {c : Code} {Q : State → Prop} {D : va_G} {cl : List vw_C} {A : Nat → Prop} {cy : Nat → ClassId} {nL : Nat} {ρ : rv_Ho}
variable {cc : ByteArray} {own : String} {Ts : List Jvm.Cond} {pc n : Nat} {E : List rv_E} {L : List (Nat × rv_V)} {St : List rv_V} {X : List rv_C} {cn sn : Nat}
theorem rv_call_ok {K : rv_K} (hW : rv_wfK K = true) (hc : rv_CallOk p l e R s m args below meth c Q D cl A cy nL pc K) {N : rv_N} (h : rv_call K R.cells R.slots pc E L St X cn sn = some N) (ok : rv_OkN p l e R s m args below meth c Q D cl A cy nL ρ N) : rv_Ok p l e R s m args below meth c Q D cl A cy nL ρ pc E L St X cn sn := by
  intro g ls H locs RR
  unfold rv_call at h
  split at h
  · rename_i σ1 h1
    split at h
    · rename_i σ h2
      cases hk : (rv_mE E K.1 σ && (Nat.ble (rv_catS (St.drop K.2.1.length)) 8 && (Nat.ble (cn + K.2.2.2.2.2.2.1) R.cells && Nat.ble (sn + K.2.2.2.2.2.2.2) R.slots))) with
      | false => simp only [hk, cond_false] at h; cases h
      | true =>
        simp only [hk, cond_true] at h
        have h := Option.some.inj h
        subst h
        rw [Bool.and_eq_true, Bool.and_eq_true, Bool.and_eq_true, Nat.ble_eq, Nat.ble_eq, Nat.ble_eq] at hk
        obtain ⟨k1, k2, k3, k4⟩ := hk
        unfold rv_wfK at hW
        rw [Bool.and_eq_true, Bool.and_eq_true, Bool.and_eq_true, Bool.and_eq_true, Nat.ble_eq] at hW
        obtain ⟨-, -, wr, wp, wl⟩ := hW
        obtain ⟨he, hx, ⟨w1, w2, w3, w4⟩, hh, hl, hP, hD, hS⟩ := RR
        obtain ⟨-, lX, qx⟩ := rv_mX_w (cy := cy) he h1 hx
        obtain ⟨⟨τ, eτ⟩, q1⟩ := rv_mV_ok he h2
        obtain ⟨lσ, q4⟩ := rv_mE_ok he k1
        have q2 := (qx τ).1
        have q3 := (qx τ).2
        rw [← eτ] at q2 q3
        have eargs : K.2.1.map (rv_v (rv_gs g σ)) = (St.take K.2.1.length).reverse.map (rv_v g) := by
          have := q1 []
          rw [List.append_nil] at this
          exact this
        have est : St.map (rv_v g) = (K.2.1.map (rv_v (rv_gs g σ))).reverse ++ (St.drop K.2.1.length).map (rv_v g) := by
          rw [eargs, List.map_reverse, List.reverse_reverse, ← List.map_append, List.take_append_drop]
        rw [est]
        refine hc (rv_gs g σ) ls H locs cn sn _ hl.1 ⟨fun i b hb => ?_, q3⟩ (by rw [q2]; exact hP) (by rw [q2]; exact hD) hS (by rw [rv_catS_ok]; exact k2) k3 k4 (fun h H1 locs1 hp hP1 hD1 hS1 => ?_)
        · obtain ⟨s1, r1, r2, r3, r4⟩ := q4 i b hb
          rw [Nat.zero_add, rv_gs_at r1]
          exact ⟨r3, r4⟩
        · obtain ⟨p1, p2, p3, p4⟩ := hp
          obtain ⟨u, hu⟩ : ∃ u : rv_G, u = (fun j => if j < E.length then g.1 j else h.1 (K.1.length + (j - E.length)), h.2.1, h.2.2) := ⟨_, rfl⟩
          have u1 : ∀ j, j < E.length → u.1 j = g.1 j := fun j hj => by rw [hu]; exact if_pos hj
          have u2 : ∀ j, u.1 (E.length + j) = h.1 (K.1.length + j) := fun j => by
            rw [hu]
            show (if E.length + j < E.length then _ else h.1 (K.1.length + (E.length + j - E.length))) = _
            rw [if_neg (by omega), show E.length + j - E.length = j by omega]
          have u3 : ∀ k, k < X.length → u.2.1 k = g.2.1 k := fun k hk => by rw [hu]; exact p2 k (by rw [lX]; exact hk)
          have urn : ∀ t, t < K.1.length + K.2.2.2.1.length → u.1 (rv_rn σ K.1.length E.length t) = h.1 t ∧ rv_rn σ K.1.length E.length t < E.length + K.2.2.2.1.length := by
            intro t ht
            unfold rv_rn
            cases hb : Nat.ble (t + 1) K.1.length with
            | true =>
              simp only [cond_true]
              rw [Nat.ble_eq] at hb
              obtain ⟨s1, r1, r2, -⟩ := q4 t (K.1[t]) (List.getElem?_eq_getElem (by omega))
              have e1 : σ.getD t 0 = s1 := by rw [List.getD_eq_getElem?_getD, r1]; rfl
              rw [e1, u1 s1 r2, p1 t (by omega), rv_gs_at r1]
              exact ⟨rfl, by omega⟩
            | false =>
              simp only [cond_false]
              have hb' : ¬ t + 1 ≤ K.1.length := fun q => by rw [← Nat.ble_eq] at q; rw [hb] at q; cases q
              rw [u2, show K.1.length + (t - K.1.length) = t by omega]
              exact ⟨rfl, by omega⟩
          have hlE : (E ++ rv_env E.length K.2.2.2.1).length = E.length + K.2.2.2.1.length := by rw [List.length_append, rv_env_len]
          have hlX : (K.2.2.2.2.2.1.map (rv_rnC σ K.1.length E.length)).length = K.2.2.2.2.2.1.length := List.length_map _
          have vrn : ∀ a, rv_ok (K.1.length + K.2.2.2.1.length) K.2.2.2.2.2.1.length a → rv_v u (rv_rnV σ K.1.length E.length a) = rv_v h a ∧ rv_ok (E.length + K.2.2.2.1.length) K.2.2.2.2.2.1.length (rv_rnV σ K.1.length E.length a) := by
            intro a ha
            obtain ⟨k, i⟩ := a
            unfold rv_rnV
            match k, ha with
            | 0, ha =>
              obtain ⟨z1, z2⟩ := urn i (ha.1 (by show _ < 2; omega))
              exact ⟨by show Value.int (Int32.ofInt (u.1 (rv_rn σ K.1.length E.length i))) = Value.int (Int32.ofInt (h.1 i)); rw [z1], fun _ => z2, fun q => by cases q⟩
            | 1, ha =>
              obtain ⟨z1, z2⟩ := urn i (ha.1 (by show _ < 2; omega))
              exact ⟨by show Value.long (Int64.ofInt (u.1 (rv_rn σ K.1.length E.length i))) = Value.long (Int64.ofInt (h.1 i)); rw [z1], fun _ => z2, fun q => by cases q⟩
            | 2, ha => exact ⟨by rw [hu]; rfl, fun q => by have q : 2 < 2 := q; omega, fun _ => ha.2 rfl⟩
            | k + 3, ha => exact ⟨rfl, fun q => by have q : k + 3 < 2 := q; omega, fun q => by have q : k + 3 = 2 := q; omega⟩
          have wX : rv_w cy u (K.2.2.2.2.2.1.map (rv_rnC σ K.1.length E.length)) = rv_w cy h K.2.2.2.2.2.1 := by
            apply List.ext_getElem?
            intro k
            unfold rv_w
            rw [List.getElem?_mapIdx, List.getElem?_mapIdx, List.getElem?_map]
            cases hk : K.2.2.2.2.2.1[k]? with
            | none => rfl
            | some cd =>
              have hcd := rv_okcb_ok (List.all_eq_true.mp wp cd (List.mem_of_getElem? hk))
              show some (u.2.1 k, rv_d cy u k (rv_rnC σ K.1.length E.length cd)) = some (h.2.1 k, rv_d cy h k cd)
              have ea : u.2.1 = h.2.1 := by rw [hu]
              have ef : u.2.2 = h.2.2 := by rw [hu]
              rw [ea]
              cases cd with
              | inl o =>
                show some (_, Sum.inr (o.1, (o.2.map (rv_rnV σ K.1.length E.length)).map (rv_v u))) = some (_, Sum.inr (o.1, o.2.map (rv_v h)))
                rw [List.map_map, List.map_congr_left (f := rv_v u ∘ rv_rnV σ K.1.length E.length) (g := rv_v h) (fun a ha => (vrn a (hcd a ha)).1)]
              | inr a => simp only [rv_rnC, rv_d]; rw [ef]
          have hbig : ∀ a, rv_ok E.length X.length a → rv_ok (E.length + K.2.2.2.1.length) K.2.2.2.2.2.1.length a := fun a ha => rv_ok_mono (by omega) (by omega) ha
          have hdrop : ∀ a ∈ St.drop K.2.1.length, rv_ok E.length X.length a := fun a ha => w3 a (List.mem_of_mem_drop ha)
          have RN : rv_R D cl A s.heap cy nL ρ u (E ++ rv_env E.length K.2.2.2.1) L ((K.2.2.2.2.1.map (rv_rnV σ K.1.length E.length)).toList ++ St.drop K.2.1.length) (K.2.2.2.2.2.1.map (rv_rnC σ K.1.length E.length)) ls H1 locs1 := by
            refine ⟨?_, ?_, ⟨?_, ?_, ?_, ?_⟩, ⟨?_, ?_⟩, ?_, ?_, ?_, hS1⟩
            · intro i ee hi
              by_cases hlt : i < E.length
              · rw [List.getElem?_append_left hlt] at hi
                obtain ⟨z1, z2, z3⟩ := he i ee hi
                rw [u1 i hlt, u1 _ (w1 ee (List.mem_of_getElem? hi))]
                exact ⟨z1, z2, z3⟩
              · rw [List.getElem?_append_right (by omega), rv_env_at] at hi
                cases hb : K.2.2.2.1[i - E.length]? with
                | none => rw [hb] at hi; cases hi
                | some b =>
                  rw [hb] at hi
                  have hi := Option.some.inj hi
                  subst hi
                  have z := p3 _ b hb
                  have ei : i = E.length + (i - E.length) := by omega
                  have eu : u.1 i = h.1 (K.1.length + (i - E.length)) := by
                    conv => lhs; rw [ei]
                    exact u2 _
                  rw [eu]
                  refine ⟨z.1, z.2, ?_⟩
                  show h.1 (K.1.length + (i - E.length)) = u.1 (E.length + (i - E.length)) + 0
                  rw [u2]
                  omega
            · intro k b hk
              rw [List.getElem?_map] at hk
              cases hc2 : K.2.2.2.2.2.1[k]? with
              | none => rw [hc2] at hk; cases hk
              | some cd =>
                rw [hc2] at hk
                have hcd := rv_okcb_ok (List.all_eq_true.mp wp cd (List.mem_of_getElem? hc2))
                cases cd with
                | inl o => cases hk
                | inr a =>
                  have hk := Sum.inr.inj (Option.some.inj hk)
                  subst hk
                  have z := p4 k a hc2
                  have ef : u.2.2 = h.2.2 := by rw [hu]
                  intro j
                  rw [ef]
                  show (∀ i, rv_tr (a.2.2.2.2.map (fun q => (q.1, rv_rn σ K.1.length E.length q.2))) j = some i → _) ∧ (rv_tr (a.2.2.2.2.map (fun q => (q.1, rv_rn σ K.1.length E.length q.2))) j = none → _)
                  rw [rv_tr_map]
                  cases hj : rv_tr a.2.2.2.2 j with
                  | none => exact ⟨fun i hi => (by cases hi), fun _ => (z j).2 hj⟩
                  | some t =>
                    refine ⟨fun i hi => ?_, fun hi => by cases hi⟩
                    have hi := Option.some.inj hi
                    subst hi
                    rw [(urn t (hcd (j, t) (rv_tr_mem hj))).1]
                    exact (z j).1 t hj
            · intro ee hee
              rw [hlE]
              rcases List.mem_append.mp hee with z | z
              · have := w1 ee z; omega
              · obtain ⟨i, hi⟩ := List.getElem?_of_mem z
                rw [rv_env_at] at hi
                cases hb : K.2.2.2.1[i]? with
                | none => rw [hb] at hi; cases hi
                | some b =>
                  rw [hb] at hi
                  have hi := Option.some.inj hi
                  subst hi
                  have := (List.getElem?_eq_some_iff.mp hb).1
                  show E.length + i < _
                  omega
            · intro q hq
              rw [hlE, hlX]
              exact hbig _ (w2 q hq)
            · intro a ha
              rw [hlE, hlX]
              rcases List.mem_append.mp ha with z | z
              · cases hres : K.2.2.2.2.1 with
                | none => rw [hres] at z; cases z
                | some t =>
                  rw [hres] at z wr
                  have z : a = rv_rnV σ K.1.length E.length t := List.mem_singleton.mp z
                  rw [z]
                  exact (vrn t (rv_okb_ok (List.all_eq_true.mp wr t (List.mem_singleton.mpr rfl)))).2
              · exact hbig _ (hdrop a z)
            · intro cd hcd
              rw [hlE, hlX]
              obtain ⟨cd0, z1, rfl⟩ := List.mem_map.mp hcd
              have z2 := rv_okcb_ok (List.all_eq_true.mp wp cd0 z1)
              cases cd0 with
              | inl o =>
                intro a ha
                obtain ⟨a0, y1, rfl⟩ := List.mem_map.mp ha
                exact (vrn a0 (z2 a0 y1)).2
              | inr a =>
                intro q hq
                obtain ⟨q0, y1, rfl⟩ := List.mem_map.mp hq
                exact (urn q0.2 (z2 q0 y1)).2
            · intro q hq
              rw [hlE]
              obtain ⟨z1, z2⟩ := hh.1 q hq
              exact ⟨by omega, by rw [u1 _ z1]; exact z2⟩
            · intro k a hk
              rw [hlX]
              obtain ⟨z1, z2⟩ := hh.2 k a hk
              exact ⟨by omega, by rw [u3 k z1]; exact z2⟩
            · have el : rv_lv u L = rv_lv g L := List.map_congr_left fun q hq => by rw [rv_v_ag2 u1 u3 (w2 q hq)]
              rw [el]
              exact hl
            · rw [wX]; exact hP1
            · rw [wX]; exact hD1
          have h9 := ok u ls H1 locs1 RN
          have e1 : ((K.2.2.2.2.1.map (rv_rnV σ K.1.length E.length)).toList ++ St.drop K.2.1.length).map (rv_v u) = (K.2.2.2.2.1.map (rv_v h)).toList ++ (St.drop K.2.1.length).map (rv_v g) := by
            rw [List.map_append]
            congr 1
            · cases hres : K.2.2.2.2.1 with
              | none => rfl
              | some t =>
                rw [hres] at wr
                show [rv_v u (rv_rnV σ K.1.length E.length t)] = [rv_v h t]
                rw [(vrn t (rv_okb_ok (List.all_eq_true.mp wr t (List.mem_singleton.mpr rfl)))).1]
            · exact List.map_congr_left fun a ha => rv_v_ag2 u1 u3 (hdrop a ha)
          rw [← e1]
          exact h9
    · cases h
  · cases h
end
