/-! contracts over symbolic states -/
/-- an outcome: bounds of the entry's ids, new ids, answer, world -/
abbrev rv_O := List (Nat × Int × Int) × List rv_E × Option rv_V × List rv_C
/-- a contract: ids, arguments, world, outcomes, cells, slots -/
abbrev rv_K := List rv_E × List rv_V × List rv_C × List rv_O × Nat × Nat
def rv_eN (h : rv_G) (n : Nat) (bs : List rv_E) : Prop := ∀ (i : Nat) (b : rv_E), bs[i]? = some b → b.1 ≤ h.1 (n + i) ∧ h.1 (n + i) ≤ b.2.1 ∧ h.1 (n + i) = h.1 b.2.2.1 + b.2.2.2.1 ∧ rv_fs h (n + bs.length) b.2.2.2.2
def rv_pre (g : rv_G) (K : rv_K) : Prop := rv_e g K.1 ∧ rv_x g K.2.2.1
def rv_post (g h : rv_G) (K : rv_K) (o : rv_O) : Prop := (∀ i, i < K.1.length → rv_z h i = rv_z g i) ∧ (∀ k, k < K.2.2.1.length → h.2.1 k = g.2.1 k) ∧ h.2.2.2 = g.2.2.2 ∧ (∀ q ∈ o.1, q.2.1 ≤ h.1 q.1 ∧ h.1 q.1 ≤ q.2.2) ∧ rv_eN h K.1.length o.2.1 ∧ rv_x h o.2.2.2
def rv_wfO (n N : Nat) (o : rv_O) : Bool := o.1.all (fun q => Nat.ble (q.1 + 1) n) && (rv_wfE (n + o.2.1.length) o.2.1 && ((o.2.2.1.toList).all (rv_okb (n + o.2.1.length) o.2.2.2.length) && (o.2.2.2.all (rv_okcb (n + o.2.1.length) o.2.2.2.length) && Nat.ble N o.2.2.2.length)))
def rv_wfK (K : rv_K) : Bool := rv_wfE K.1.length K.1 && (K.2.1.all (rv_okb K.1.length K.2.2.1.length) && (K.2.2.1.all (rv_okcb K.1.length K.2.2.1.length) && K.2.2.2.1.all (rv_wfO K.1.length K.2.2.1.length)))
def rv_NWs (NW : List (String × Nat × MethodName × String)) (U : State) : Prop := ∀ q ∈ NW, va_Nw (.methodLinkNest q.1 q.2.1 q.2.2.1 q.2.2.2) U
def rv_B (NW : List (String × Nat × MethodName × String)) (D : va_G) (cl : List vw_C) (cy : Nat → ClassId) (g : rv_G) (X : List rv_C) (sz : Nat) : State → Prop := fun U => U.heap.size = sz ∧ va_P D cl (rv_w cy g X) U.heap ∧ va_K D cl (rv_tys cy) U ∧ va_D (fun _ => True) (rv_w cy g X) ∧ rv_NWs NW U ∧ rv_St cy (va_A (rv_w cy g X) sz) U g.2.2.2
def rv_Qc (D : va_G) (cl : List vw_C) (cy : Nat → ClassId) (g : rv_G) (K : rv_K) (A : Nat → Prop) : Array Value → State → Outcome → State → Prop := fun _ st oc t => (∃ o ∈ K.2.2.2.1, ∃ h : rv_G, rv_post g h K o ∧ oc = .returned (o.2.2.1.map (rv_v h)) ∧ va_P D cl (rv_w cy h o.2.2.2) t.heap ∧ va_D A (rv_w cy h o.2.2.2)) ∧ va_F A st t
def rv_Met (NW : List (String × Nat × MethodName × String)) (l : Launch) (D : va_G) (cl : List vw_C) (cy : Nat → ClassId) (y : MethodName) (ws : List Jvm.Cond) (rm : Room) (K : rv_K) : Prop := ∀ (g : rv_G) (sz : Nat), rv_pre g K → Met l y ws rm (va_Pc (K.2.1.map (rv_v g)) (rv_B NW D cl cy g K.2.2.1 sz)) (rv_Qc D cl cy g K (va_A (rv_w cy g K.2.2.1) sz)) K.2.2.2.2.1 K.2.2.2.2.2 (va_A (rv_w cy g K.2.2.1) sz)
def rv_CallOk (p : Program) (l : Launch) (e : Env) (R : Room) (s : State) (m : MethodId) (args : Array Value) (below : List Frame) (meth : Method) (c : Code) (Q : State → Prop) (D : va_G) (cl : List vw_C) (A : Nat → Prop) (cy : Nat → ClassId) (nL : Nat) (st : Nat → Nat) (pc : Nat) (K : rv_K) : Prop :=
  ∀ (g : rv_G) (ls : Array Slot) (H : Heap) (locs : List Loc) (cn sn : Nat) (rest : List Value), ls.size = nL → g.2.2.2 = st → rv_pre g K → va_P D cl (rv_w cy g K.2.2.1) H → va_D A (rv_w cy g K.2.2.1) → va_S A s.heap H locs → (rest.map fun v => v.category).sum ≤ 8 → cn + K.2.2.2.2.1 ≤ R.cells → sn + K.2.2.2.2.2 ≤ R.slots →
    (∀ o ∈ K.2.2.2.1, ∀ (h : rv_G) (H1 : Heap) (locs1 : List Loc), rv_post g h K o → va_P D cl (rv_w cy h o.2.2.2) H1 → va_D A (rv_w cy h o.2.2.2) → va_S A s.heap H1 locs1 → W p l e R s m args below meth c H1 locs1 (cn + K.2.2.2.2.1) (sn + K.2.2.2.2.2) Q (F0 m (pc + 3) ls ((o.2.2.1.map (rv_v h)).toList ++ rest))) →
    W p l e R s m args below meth c H locs cn sn Q (F0 m pc ls ((K.2.1.map (rv_v g)).reverse ++ rest))
def rv_rn (σ : List Nat) (n e t : Nat) : Nat := bif Nat.ble (t + 1) n then σ.getD t 0 else e + (t - n)
def rv_rnV (σ : List Nat) (n e : Nat) (a : rv_V) : rv_V := bif Nat.ble a.1 1 then (a.1, rv_rn σ n e a.2) else a
def rv_rnC (σ : List Nat) (n e : Nat) (c : rv_C) : rv_C := match c with
  | .inl o => .inl (o.1, o.2.map (rv_rnV σ n e))
  | .inr a => .inr (a.1, a.2.1, a.2.2.1, a.2.2.2.1, a.2.2.2.2.1.map (fun q => (q.1, rv_rn σ n e q.2)), rv_rn σ n e a.2.2.2.2.2)
def rv_rnE (σ : List Nat) (n e : Nat) (b : rv_E) : rv_E := (b.1, b.2.1, rv_rn σ n e b.2.2.1, b.2.2.2.1, b.2.2.2.2.map (fun f => (f.1, f.2.map (rv_rn σ n e))))
theorem rv_tr_map {σ : List Nat} {n e : Nat} : ∀ (t : List (Nat × Nat)) (j : Nat), rv_tr (t.map (fun q => (q.1, rv_rn σ n e q.2))) j = (rv_tr t j).map (rv_rn σ n e)
  | [], _ => rfl
  | q :: r, j => by
    show rv_tr ((q.1, rv_rn σ n e q.2) :: r.map _) j = _
    unfold rv_tr
    cases h : Nat.beq q.1 j with
    | true => rfl
    | false => simp only [h, cond_false]; exact rv_tr_map r j
def rv_cuts (σ : List Nat) (E : List rv_E) (cs : List (Nat × Int × Int)) : Option (List rv_E) := match cs with
  | [] => some E
  | q :: r => match rv_cut E (σ.getD q.1 0) q.2.1 q.2.2 with
    | some E' => rv_cuts σ E' r
    | none => none
def rv_out (K : rv_K) (σ : List Nat) (pc : Nat) (E : List rv_E) (L : List (Nat × rv_V)) (St : List rv_V) (cn sn : Nat) (o : rv_O) : List rv_N := match rv_cuts σ (E ++ o.2.1.map (rv_rnE σ K.1.length E.length)) o.1 with
  | some E1 => [(pc + 3, E1, L, (o.2.2.1.map (rv_rnV σ K.1.length E.length)).toList ++ St.drop K.2.1.length, o.2.2.2.map (rv_rnC σ K.1.length E.length), cn + K.2.2.2.2.1, sn + K.2.2.2.2.2)]
  | none => []
def rv_call (RL : List rv_Rl) (K : rv_K) (ce sl : Nat) (pc : Nat) (E : List rv_E) (L : List (Nat × rv_V)) (St : List rv_V) (X : List rv_C) (cn sn : Nat) : Option (List rv_N) := match rv_mX E [] K.2.2.1 X with
  | some σ1 => match rv_mV E σ1 K.2.1 (St.take K.2.1.length).reverse with
    | some σ => bif rv_mE RL E σ 0 K.1 σ && (Nat.ble (rv_catS (St.drop K.2.1.length)) 8 && (Nat.ble (cn + K.2.2.2.2.1) ce && Nat.ble (sn + K.2.2.2.2.2) sl)) then
        some (K.2.2.2.1.flatMap (rv_out K σ pc E L St cn sn)) else none
    | none => none
  | none => none
section
variable {p : Program} {l : Launch} {e : Env} {R : Room} {s : State} {m : MethodId} {args : Array Value} {below : List Frame} {meth : Method} {c : Code} {Q : State → Prop} {D : va_G} {cl : List vw_C} {A : Nat → Prop} {cy : Nat → ClassId} {nL : Nat} {ρ : rv_Ho}
variable {cc : ByteArray} {own : String} {Ts : List Jvm.Cond} {pc n : Nat} {E : List rv_E} {L : List (Nat × rv_V)} {St : List rv_V} {X : List rv_C} {cn sn : Nat}
theorem rv_cuts_ok {g : rv_G} {K : List rv_V} {ls : Array Slot} {H : Heap} {locs : List Loc} {σ : List Nat} : ∀ {cs : List (Nat × Int × Int)} {E : List rv_E}, rv_R D cl A s.heap cy nL ρ g E L K X ls H locs → (∀ q ∈ cs, σ.getD q.1 0 < E.length ∧ q.2.1 ≤ g.1 (σ.getD q.1 0) ∧ g.1 (σ.getD q.1 0) ≤ q.2.2) → ∃ E1, rv_cuts σ E cs = some E1 ∧ rv_R D cl A s.heap cy nL ρ g E1 L K X ls H locs
  | [], E, RR, _ => ⟨E, rfl, RR⟩
  | q :: r, E, RR, h => by
    obtain ⟨h1, h2, h3⟩ := h q List.mem_cons_self
    obtain ⟨E', e1, l1, R1⟩ := RR.cut h1 h2 h3
    obtain ⟨E1, e2, R2⟩ := rv_cuts_ok (cs := r) R1 (fun z hz => by rw [l1]; exact h z (List.mem_cons_of_mem _ hz))
    refine ⟨E1, ?_, R2⟩
    unfold rv_cuts
    rw [e1]
    exact e2
theorem rv_call_ok {RL : List rv_Rl} (hRL : ∀ r ∈ RL, rv_RlOk r) {K : rv_K} (hW : rv_wfK K = true) {st : Nat → Nat} (hst : ρ.2.2 = st) (hc : rv_CallOk p l e R s m args below meth c Q D cl A cy nL st pc K) {Ns : List rv_N} (h : rv_call RL K R.cells R.slots pc E L St X cn sn = some Ns) (ok : ∀ N ∈ Ns, rv_OkN p l e R s m args below meth c Q D cl A cy nL ρ N) : rv_Ok p l e R s m args below meth c Q D cl A cy nL ρ pc E L St X cn sn := by
  intro g ls H locs RR
  unfold rv_call at h
  split at h
  · rename_i σ1 h1
    split at h
    · rename_i σ h2
      cases hk : (rv_mE RL E σ 0 K.1 σ && (Nat.ble (rv_catS (St.drop K.2.1.length)) 8 && (Nat.ble (cn + K.2.2.2.2.1) R.cells && Nat.ble (sn + K.2.2.2.2.2) R.slots))) with
      | false => simp only [hk, cond_false] at h; cases h
      | true =>
        simp only [hk, cond_true] at h
        have h := Option.some.inj h
        subst h
        rw [Bool.and_eq_true, Bool.and_eq_true, Bool.and_eq_true, Nat.ble_eq, Nat.ble_eq, Nat.ble_eq] at hk
        obtain ⟨k1, k2, k3, k4⟩ := hk
        unfold rv_wfK at hW
        rw [Bool.and_eq_true, Bool.and_eq_true, Bool.and_eq_true] at hW
        obtain ⟨-, -, -, wo⟩ := hW
        obtain ⟨he, hx, ⟨w1, w2, w3, w4⟩, hh, hl, hP, hD, hS⟩ := RR
        obtain ⟨-, lX, qx⟩ := rv_mX_w (cy := cy) he h1 hx
        obtain ⟨⟨τ, eτ⟩, q1⟩ := rv_mV_ok he h2
        obtain ⟨lσ, q4⟩ := rv_mE_ok hRL he (fun k => by rw [Nat.zero_add]) k1
        have q2 := (qx τ).1
        have q3 := (qx τ).2
        rw [← eτ] at q2 q3
        have eargs : K.2.1.map (rv_v (rv_gs g σ)) = (St.take K.2.1.length).reverse.map (rv_v g) := by
          have := q1 []
          rw [List.append_nil] at this
          exact this
        have est : St.map (rv_v g) = (K.2.1.map (rv_v (rv_gs g σ))).reverse ++ (St.drop K.2.1.length).map (rv_v g) := by
          rw [eargs, List.map_reverse, List.reverse_reverse, ← List.map_append, List.take_append_drop]
        rw [est]
        refine hc (rv_gs g σ) ls H locs cn sn _ hl.1 (hh.2.2.trans hst) ⟨fun i b hb => ?_, q3⟩ (by rw [q2]; exact hP) (by rw [q2]; exact hD) hS (by rw [rv_catS_ok]; exact k2) k3 k4 (fun o ho h H1 locs1 hp hP1 hD1 hS1 => ?_)
        · obtain ⟨s1, r1, r2, r3, r4, r5, r6⟩ := q4 i b hb
          rw [Nat.zero_add] at r3 r4 r5
          rw [lσ] at r6
          exact ⟨r3, r4, r5, r6⟩
        · have wo1 := List.all_eq_true.mp wo o ho
          unfold rv_wfO at wo1
          rw [Bool.and_eq_true, Bool.and_eq_true, Bool.and_eq_true, Bool.and_eq_true, Nat.ble_eq] at wo1
          obtain ⟨wc, wn, wr, wp, wl⟩ := wo1
          obtain ⟨p1, p2, p0, pc1, p3, p4⟩ := hp
          obtain ⟨u, hu⟩ : ∃ u : rv_G, u = (fun j => if j < E.length then g.1 j else h.1 (K.1.length + (j - E.length)), h.2.1, fun j => if j < E.length then g.2.2.1 j else h.2.2.1 (K.1.length + (j - E.length)), h.2.2.2) := ⟨_, rfl⟩
          have u1 : ∀ j, j < E.length → rv_z u j = rv_z g j := fun j hj => by
            rw [hu]
            show ((if j < E.length then g.1 j else _), (if j < E.length then g.2.2.1 j else _)) = _
            rw [if_pos hj, if_pos hj]
            rfl
          have u1i : ∀ j, j < E.length → u.1 j = g.1 j := fun j hj => congrArg Prod.fst (u1 j hj)
          have u2 : ∀ j, rv_z u (E.length + j) = rv_z h (K.1.length + j) := fun j => by
            rw [hu]
            show ((if E.length + j < E.length then _ else h.1 (K.1.length + (E.length + j - E.length))), (if E.length + j < E.length then _ else h.2.2.1 (K.1.length + (E.length + j - E.length)))) = _
            rw [if_neg (by omega), if_neg (by omega), show E.length + j - E.length = j by omega]
            rfl
          have u3 : ∀ k, k < X.length → u.2.1 k = g.2.1 k := fun k hk => by rw [hu]; exact p2 k (by rw [lX]; exact hk)
          have u4 : u.2.2.2 = g.2.2.2 := by rw [hu]; exact p0
          have uag : rv_ag g u E.length X.length := ⟨u1i, u3, fun j hj => congrArg Prod.snd (u1 j hj), u4⟩
          have urn : ∀ t, t < K.1.length + o.2.1.length → rv_z u (rv_rn σ K.1.length E.length t) = rv_z h t ∧ rv_rn σ K.1.length E.length t < E.length + o.2.1.length := by
            intro t ht
            unfold rv_rn
            cases hb : Nat.ble (t + 1) K.1.length with
            | true =>
              simp only [cond_true]
              rw [Nat.ble_eq] at hb
              obtain ⟨s1, r1, r2, -⟩ := q4 t (K.1[t]) (List.getElem?_eq_getElem (by omega))
              rw [Nat.zero_add] at r1
              have e1 : σ.getD t 0 = s1 := by rw [List.getD_eq_getElem?_getD, r1]; rfl
              rw [e1, u1 s1 r2, p1 t (by omega), rv_gs_z r1]
              exact ⟨rfl, by omega⟩
            | false =>
              simp only [cond_false]
              have hb' : ¬ t + 1 ≤ K.1.length := fun q => by rw [← Nat.ble_eq] at q; rw [hb] at q; cases q
              rw [u2, show K.1.length + (t - K.1.length) = t by omega]
              exact ⟨rfl, by omega⟩
          have urni : ∀ t, t < K.1.length + o.2.1.length → u.1 (rv_rn σ K.1.length E.length t) = h.1 t := fun t ht => congrArg Prod.fst (urn t ht).1
          have hlE : (E ++ o.2.1.map (rv_rnE σ K.1.length E.length)).length = E.length + o.2.1.length := by rw [List.length_append, List.length_map]
          have hlX : (o.2.2.2.map (rv_rnC σ K.1.length E.length)).length = o.2.2.2.length := List.length_map _
          have vrn : ∀ a, rv_ok (K.1.length + o.2.1.length) o.2.2.2.length a → rv_v u (rv_rnV σ K.1.length E.length a) = rv_v h a ∧ rv_ok (E.length + o.2.1.length) o.2.2.2.length (rv_rnV σ K.1.length E.length a) := by
            intro a ha
            obtain ⟨k, i⟩ := a
            unfold rv_rnV
            match k, ha with
            | 0, ha =>
              have z1 := urni i (ha.1 (by show _ < 2; omega))
              have z2 := (urn i (ha.1 (by show _ < 2; omega))).2
              exact ⟨by show Value.int (Int32.ofInt (u.1 (rv_rn σ K.1.length E.length i))) = Value.int (Int32.ofInt (h.1 i)); rw [z1], fun _ => z2, fun q => by cases q⟩
            | 1, ha =>
              have z1 := urni i (ha.1 (by show _ < 2; omega))
              have z2 := (urn i (ha.1 (by show _ < 2; omega))).2
              exact ⟨by show Value.long (Int64.ofInt (u.1 (rv_rn σ K.1.length E.length i))) = Value.long (Int64.ofInt (h.1 i)); rw [z1], fun _ => z2, fun q => by cases q⟩
            | 2, ha => exact ⟨by rw [hu]; rfl, fun q => by have q : 2 < 2 := q; omega, fun _ => ha.2 rfl⟩
            | 3, ha => exact ⟨rfl, fun q => by have q : 3 < 2 := q; omega, fun q => by have q : 3 = 2 := q; omega⟩
            | k + 4, ha => exact ⟨by rw [hu]; rfl, fun q => by have q : k + 4 < 2 := q; omega, fun q => by have q : k + 4 = 2 := q; omega⟩
          have wX : rv_w cy u (o.2.2.2.map (rv_rnC σ K.1.length E.length)) = rv_w cy h o.2.2.2 := by
            apply List.ext_getElem?
            intro k
            unfold rv_w
            rw [List.getElem?_mapIdx, List.getElem?_mapIdx, List.getElem?_map]
            cases hk : o.2.2.2[k]? with
            | none => rfl
            | some cd =>
              have hcd := rv_okcb_ok (List.all_eq_true.mp wp cd (List.mem_of_getElem? hk))
              show some (u.2.1 k, rv_d cy u (rv_rnC σ K.1.length E.length cd)) = some (h.2.1 k, rv_d cy h cd)
              have ea : u.2.1 = h.2.1 := by rw [hu]
              rw [ea]
              cases cd with
              | inl o =>
                show some (_, Sum.inr (o.1, (o.2.map (rv_rnV σ K.1.length E.length)).map (rv_v u))) = some (_, Sum.inr (o.1, o.2.map (rv_v h)))
                rw [List.map_map, List.map_congr_left (f := rv_v u ∘ rv_rnV σ K.1.length E.length) (g := rv_v h) (fun a ha => (vrn a (hcd a ha)).1)]
              | inr a =>
                have ec : u.2.2.1 (rv_rn σ K.1.length E.length a.2.2.2.2.2) = h.2.2.1 a.2.2.2.2.2 := congrArg Prod.snd (urn _ hcd.2).1
                simp only [rv_rnC, rv_d]
                rw [ec]
          have hbig : ∀ a, rv_ok E.length X.length a → rv_ok (E.length + o.2.1.length) o.2.2.2.length a := fun a ha => rv_ok_mono (by omega) (by omega) ha
          have hdrop : ∀ a ∈ St.drop K.2.1.length, rv_ok E.length X.length a := fun a ha => w3 a (List.mem_of_mem_drop ha)
          have RN : rv_R D cl A s.heap cy nL ρ u (E ++ o.2.1.map (rv_rnE σ K.1.length E.length)) L ((o.2.2.1.map (rv_rnV σ K.1.length E.length)).toList ++ St.drop K.2.1.length) (o.2.2.2.map (rv_rnC σ K.1.length E.length)) ls H1 locs1 := by
            refine ⟨?_, ?_, ⟨?_, ?_, ?_, ?_⟩, ⟨?_, ?_, ?_⟩, ?_, ?_, ?_, hS1⟩
            · intro i ee hi
              rw [hlE]
              by_cases hlt : i < E.length
              · rw [List.getElem?_append_left hlt] at hi
                obtain ⟨z1, z2, z3, z4⟩ := he i ee hi
                rw [u1i i hlt, u1i _ (w1 ee (List.mem_of_getElem? hi))]
                exact ⟨z1, z2, z3, rv_fs_ag uag (by omega) z4⟩
              · rw [List.getElem?_append_right (by omega), List.getElem?_map] at hi
                cases hb : o.2.1[i - E.length]? with
                | none => rw [hb] at hi; cases hi
                | some b =>
                  rw [hb] at hi
                  have hi := Option.some.inj hi
                  subst hi
                  obtain ⟨z1, z2, z3, z4⟩ := p3 _ b hb
                  obtain ⟨y1, y2⟩ := rv_wfE_ok wn (List.mem_of_getElem? hb)
                  have ei : i = E.length + (i - E.length) := by omega
                  have eu : u.1 i = h.1 (K.1.length + (i - E.length)) := by
                    conv => lhs; rw [ei]
                    exact congrArg Prod.fst (u2 _)
                  rw [eu]
                  refine ⟨z1, z2, ?_, ?_⟩
                  · show _ = u.1 (rv_rn σ K.1.length E.length b.2.2.1) + b.2.2.2.1
                    rw [urni _ y1]
                    exact z3
                  · intro f hf
                    obtain ⟨f0, hf0, rfl⟩ := List.mem_map.mp hf
                    refine ⟨fun j hj => ?_, ?_⟩
                    · obtain ⟨j0, hj0, rfl⟩ := List.mem_map.mp hj
                      exact (urn j0 (y2 f0 hf0 j0 hj0)).2
                    · have ez : (f0.2.map (rv_rn σ K.1.length E.length)).map (rv_z u) = f0.2.map (rv_z h) := by
                        rw [List.map_map]
                        exact List.map_congr_left fun j hj => (urn j (y2 f0 hf0 j hj)).1
                      show rv_Φ f0.1 ((f0.2.map (rv_rn σ K.1.length E.length)).map (rv_z u))
                      rw [ez]
                      exact (z4 f0 hf0).2
            · intro k b hk
              rw [List.getElem?_map] at hk
              cases hc2 : o.2.2.2[k]? with
              | none => rw [hc2] at hk; cases hk
              | some cd =>
                rw [hc2] at hk
                have hcd := rv_okcb_ok (List.all_eq_true.mp wp cd (List.mem_of_getElem? hc2))
                cases cd with
                | inl o => cases hk
                | inr a =>
                  have hk := Sum.inr.inj (Option.some.inj hk)
                  subst hk
                  have z := p4 k a hc2
                  have ec : u.2.2.1 (rv_rn σ K.1.length E.length a.2.2.2.2.2) = h.2.2.1 a.2.2.2.2.2 := congrArg Prod.snd (urn _ hcd.2).1
                  intro j
                  show (∀ i, rv_tr (a.2.2.2.2.1.map (fun q => (q.1, rv_rn σ K.1.length E.length q.2))) j = some i → u.2.2.1 (rv_rn σ K.1.length E.length a.2.2.2.2.2) j = _) ∧ (rv_tr (a.2.2.2.2.1.map (fun q => (q.1, rv_rn σ K.1.length E.length q.2))) j = none → a.2.2.1 ≤ u.2.2.1 (rv_rn σ K.1.length E.length a.2.2.2.2.2) j ∧ u.2.2.1 (rv_rn σ K.1.length E.length a.2.2.2.2.2) j ≤ a.2.2.2.1)
                  rw [rv_tr_map, ec]
                  cases hj : rv_tr a.2.2.2.2.1 j with
                  | none => exact ⟨fun i hi => (by cases hi), fun _ => (z j).2 hj⟩
                  | some t =>
                    refine ⟨fun i hi => ?_, fun hi => by cases hi⟩
                    have hi := Option.some.inj hi
                    subst hi
                    rw [urni t (hcd.1 (j, t) (rv_tr_mem hj))]
                    exact (z j).1 t hj
            · intro ee hee
              rw [hlE]
              rcases List.mem_append.mp hee with z | z
              · have := w1 ee z; omega
              · obtain ⟨b, hb, rfl⟩ := List.mem_map.mp z
                exact (urn _ (rv_wfE_ok wn hb).1).2
            · intro q hq
              rw [hlE, hlX]
              exact hbig _ (w2 q hq)
            · intro a ha
              rw [hlE, hlX]
              rcases List.mem_append.mp ha with z | z
              · cases hres : o.2.2.1 with
                | none => rw [hres] at z; cases z
                | some t =>
                  rw [hres] at z wr
                  have z : a = rv_rnV σ K.1.length E.length t := List.mem_singleton.mp z
                  rw [z]
                  exact (vrn t (rv_okb_ok (List.all_eq_true.mp wr t (List.mem_singleton.mpr rfl)))).2
              · exact hbig _ (hdrop a z)
            · intro cd hcd
              rw [hlE, hlX]
              obtain ⟨cd0, z1, rfl⟩ := List.mem_map.mp hcd
              have z2 := rv_okcb_ok (List.all_eq_true.mp wp cd0 z1)
              cases cd0 with
              | inl o =>
                intro a ha
                obtain ⟨a0, y1, rfl⟩ := List.mem_map.mp ha
                exact (vrn a0 (z2 a0 y1)).2
              | inr a =>
                refine ⟨fun q hq => ?_, (urn _ z2.2).2⟩
                obtain ⟨q0, y1, rfl⟩ := List.mem_map.mp hq
                exact (urn q0.2 (z2.1 q0 y1)).2
            · intro q hq
              rw [hlE]
              obtain ⟨z1, z2⟩ := hh.1 q hq
              exact ⟨by omega, by rw [u1 _ z1]; exact z2⟩
            · intro k a hk
              rw [hlX]
              obtain ⟨z1, z2⟩ := hh.2.1 k a hk
              exact ⟨by omega, by rw [u3 k z1]; exact z2⟩
            · rw [u4]; exact hh.2.2
            · rw [rv_L_ag uag w2]
              exact hl
            · rw [wX]; exact hP1
            · rw [wX]; exact hD1
          obtain ⟨E1, c1, RC⟩ := rv_cuts_ok (σ := σ) (cs := o.1) RN (fun q hq => by
            have hq1 := List.all_eq_true.mp wc q hq
            rw [Nat.ble_eq] at hq1
            obtain ⟨s1, r1, r2, -⟩ := q4 q.1 (K.1[q.1]) (List.getElem?_eq_getElem (by omega))
            rw [Nat.zero_add] at r1
            have e1 : σ.getD q.1 0 = s1 := by rw [List.getD_eq_getElem?_getD, r1]; rfl
            have e2 : h.1 q.1 = g.1 s1 := (congrArg Prod.fst (p1 q.1 (by omega))).trans (rv_gs_at r1)
            have z := pc1 q hq
            rw [e2] at z
            rw [e1, u1i s1 r2, hlE]
            exact ⟨by omega, z⟩)
          have h9 := ok (pc + 3, E1, L, (o.2.2.1.map (rv_rnV σ K.1.length E.length)).toList ++ St.drop K.2.1.length, o.2.2.2.map (rv_rnC σ K.1.length E.length), cn + K.2.2.2.2.1, sn + K.2.2.2.2.2) (List.mem_flatMap.mpr ⟨o, ho, by unfold rv_out; rw [c1]; exact List.mem_singleton.mpr rfl⟩) u ls H1 locs1 RC
          have e1 : ((o.2.2.1.map (rv_rnV σ K.1.length E.length)).toList ++ St.drop K.2.1.length).map (rv_v u) = (o.2.2.1.map (rv_v h)).toList ++ (St.drop K.2.1.length).map (rv_v g) := by
            rw [List.map_append]
            congr 1
            · cases hres : o.2.2.1 with
              | none => rfl
              | some t =>
                rw [hres] at wr
                show [rv_v u (rv_rnV σ K.1.length E.length t)] = [rv_v h t]
                rw [(vrn t (rv_okb_ok (List.all_eq_true.mp wr t (List.mem_singleton.mpr rfl)))).1]
            · exact rv_K_ag uag hdrop
          rw [← e1]
          exact h9
    · cases h
  · cases h
end
