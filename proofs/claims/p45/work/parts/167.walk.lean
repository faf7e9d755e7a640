def rv_arr (RL : List rv_Rl) (pn : Nat) (rk0 : Option (List rv_Rk)) (h : rv_Hd) (N : rv_N) : Bool := match rv_mL N.2.1 N.2.2.1 (List.range pn) h.2.1 with
  | some σ1 => match rv_mV N.2.1 σ1 h.2.2.1 N.2.2.2.1 with
    | some σ2 => match rv_mX N.2.1 σ2 h.2.2.2.1 N.2.2.2.2.1 with
      | some σ => rv_mE RL N.2.1 σ 0 h.1 σ && (Nat.ble N.2.2.2.2.2.1 h.2.2.2.2.1 && (Nat.ble N.2.2.2.2.2.2 h.2.2.2.2.2.1 && (match rk0 with
        | none => true
        | some r => rv_lx RL N.2.1 σ r h.2.2.2.2.2.2)))
      | none => false
    | none => false
  | none => false
def rv_pick (RL : List rv_Rl) (ce sl : Nat) (N : rv_N) (CT : List (Nat × rv_K)) : Option (List rv_N) := match CT with
  | [] => none
  | k :: r => bif Nat.beq k.1 N.1 then (match rv_call RL k.2 ce sl N.1 N.2.1 N.2.2.1 N.2.2.2.1 N.2.2.2.2.1 N.2.2.2.2.2.1 N.2.2.2.2.2.2 with
    | some S => some S
    | none => rv_pick RL ce sl N r) else rv_pick RL ce sl N r
theorem rv_pick_ok {RL : List rv_Rl} {ce sl : Nat} {N : rv_N} {S : List rv_N} : ∀ {CT : List (Nat × rv_K)}, rv_pick RL ce sl N CT = some S → ∃ k ∈ CT, k.1 = N.1 ∧ rv_call RL k.2 ce sl N.1 N.2.1 N.2.2.1 N.2.2.2.1 N.2.2.2.2.1 N.2.2.2.2.2.1 N.2.2.2.2.2.2 = some S
  | [], h => by cases h
  | k :: r, h => by
    unfold rv_pick at h
    cases h0 : Nat.beq k.1 N.1 with
    | false =>
      simp only [h0, cond_false] at h
      obtain ⟨k', h1, h2⟩ := rv_pick_ok h
      exact ⟨k', List.mem_cons_of_mem _ h1, h2⟩
    | true =>
      simp only [h0, cond_true] at h
      split at h
      · rename_i S' hS
        have h := Option.some.inj h
        subst h
        exact ⟨k, List.mem_cons_self, Nat.eq_of_beq_eq_true h0, hS⟩
      · obtain ⟨k', h1, h2⟩ := rv_pick_ok h
        exact ⟨k', List.mem_cons_of_mem _ h1, h2⟩
def rv_anyH (RL : List rv_Rl) (K : rv_K) (rk0 : Option (List rv_Rk)) (S : rv_N) (HD : List (Nat × rv_Hd)) : Bool := match HD with
  | [] => false
  | h :: r => (Nat.beq h.1 S.1 && rv_arr RL K.1.length rk0 h.2 S) || rv_anyH RL K rk0 S r
theorem rv_anyH_ok {RL : List rv_Rl} {K : rv_K} {rk0 : Option (List rv_Rk)} {S : rv_N} : ∀ {HD : List (Nat × rv_Hd)}, rv_anyH RL K rk0 S HD = true → ∃ h ∈ HD, h.1 = S.1 ∧ rv_arr RL K.1.length rk0 h.2 S = true
  | [], h => by cases h
  | q :: r, h => by
    unfold rv_anyH at h
    rw [Bool.or_eq_true, Bool.and_eq_true] at h
    rcases h with h | h
    · exact ⟨q, List.mem_cons_self, Nat.eq_of_beq_eq_true h.1, h.2⟩
    · obtain ⟨z, z1, z2⟩ := rv_anyH_ok h
      exact ⟨z, List.mem_cons_of_mem _ z1, z2⟩
/-- a state with plain spines -/
def rv_fS (S : rv_N) (k : rv_N → Bool) : Bool := rv_fz S.2.1 (fun E => rv_fz S.2.2.2.2.1 (fun X => k (S.1, E, S.2.2.1, S.2.2.2.1, X, S.2.2.2.2.2)))
theorem rv_fS_eq (S : rv_N) (k : rv_N → Bool) : rv_fS S k = k S := by
  unfold rv_fS
  rw [rv_fz_eq, rv_fz_eq]
def rv_nx (RL : List rv_Rl) (DT : List rv_Dt) (HD : List (Nat × rv_Hd)) (K : rv_K) (rk0 : Option (List rv_Rk)) (ih : rv_N → Bool) (S : rv_N) : Bool := rv_fS S (fun S =>bif rv_hasD DT S.1 then (match rv_dirs RL S DT with
  | some S' => rv_anyH RL K rk0 S' HD || ih S'
  | none => true) else (rv_anyH RL K rk0 S HD || ih S))
def rv_body (RL : List rv_Rl) (DT : List rv_Dt) (T : rv_T) (P : rv_P) (pr : List (Nat × Instr × Nat)) (CT : List (Nat × rv_K)) (HD : List (Nat × rv_Hd)) (K : rv_K) (rt : Nat) (rk0 : Option (List rv_Rk)) (ih : rv_N → Bool) (N : rv_N) : Bool := match rv_fnd pr N.1 with
  | some q => rv_ln q.2.1 q.2.2 && ((Nat.beq q.2.2 1 && rv_end RL K rt q.2.1 N.2.1 N.2.2.2.1 N.2.2.2.2.1 N.2.2.2.2.2.1 N.2.2.2.2.2.2) || (match rv_pick RL P.2.2.2.2.1 P.2.2.2.2.2.1 N CT with
    | some [S] => rv_nx RL DT HD K rk0 ih S
    | some Ns => Ns.all (rv_nx RL DT HD K rk0 ih)
    | none => match rv_step T P q.2.1 N.1 N.2.1 N.2.2.1 N.2.2.2.1 N.2.2.2.2.1 N.2.2.2.2.2.1 N.2.2.2.2.2.2 with
      | some [S] => rv_nx RL DT HD K rk0 ih S
      | some Ns => Ns.all (rv_nx RL DT HD K rk0 ih)
      | none => false))
  | none => false
noncomputable def rv_seg (RL : List rv_Rl) (DT : List rv_Dt) (T : rv_T) (P : rv_P) (pr : List (Nat × Instr × Nat)) (CT : List (Nat × rv_K)) (HD : List (Nat × rv_Hd)) (K : rv_K) (rt : Nat) (rk0 : Option (List rv_Rk)) (f : Nat) : rv_N → Bool := Nat.rec (fun _ => false) (fun _ ih N => rv_body RL DT T P pr CT HD K rt rk0 ih N) f
def rv_rf (g : rv_G) (rk0 : Option (List rv_Rk)) : List (Nat × rv_Z) := match rk0 with
  | none => []
  | some r => (r.filter (fun z => Nat.ble 1 z.1)).map (fun z => (z.2.2, rv_z g z.2.2))
section
variable {p : Program} {l : Launch} {e : Env} {R : Room} {s : State} {m : MethodId} {args : Array Value} {below : List Frame} {meth : Method} {c : Code} {D : va_G} {cl : List vw_C} {A : Nat → Prop} {cy : Nat → ClassId} {nL : Nat}
variable {cc : ByteArray} {own : String} {Ts : List Jvm.Cond} {K : rv_K} {g0 gr : rv_G} {ret : Option FieldType} {T : rv_T} {P : rv_P} {pr : List (Nat × Instr × Nat)} {CT : List (Nat × rv_K)} {HD : List (Nat × rv_Hd)} {rk0 : Option (List rv_Rk)} {RL : List rv_Rl} {DT : List rv_Dt} {st : Nat → Nat}
/-- that a head's state leads to the end, if its rank is below the one held -/
def rv_HOk (p : Program) (l : Launch) (e : Env) (R : Room) (s : State) (m : MethodId) (args : Array Value) (below : List Frame) (meth : Method) (c : Code) (Q : State → Prop) (D : va_G) (cl : List vw_C) (A : Nat → Prop) (cy : Nat → ClassId) (nL : Nat) (ho : rv_Ho) (lim : Option (List Nat)) (q : Nat × rv_Hd) : Prop :=
  ∀ (g : rv_G) (ls : Array Slot) (H : Heap) (locs : List Loc), rv_R D cl A s.heap cy nL ho g q.2.1 q.2.2.1 q.2.2.2.1 q.2.2.2.2.1 ls H locs → (∀ v, lim = some v → rv_ll (q.2.2.2.2.2.2.2.map (rv_rk g)) v) → W p l e R s m args below meth c H locs q.2.2.2.2.2.1 q.2.2.2.2.2.2.1 Q (F0 m q.1 ls (q.2.2.2.1.map (rv_v g)))
def rv_wfH (pn N0 : Nat) (h : rv_Hd) : Bool := rv_wfE h.1.length h.1 && (h.2.1.all (fun q => rv_okb h.1.length h.2.2.2.1.length q.2) && (h.2.2.1.all (rv_okb h.1.length h.2.2.2.1.length) && (h.2.2.2.1.all (rv_okcb h.1.length h.2.2.2.1.length) && (Nat.ble pn h.1.length && (Nat.ble N0 h.2.2.2.1.length && h.2.2.2.2.2.2.all (fun z => Nat.ble (z.2.2 + 1) h.1.length))))))
theorem rv_arr_ok (hRL : ∀ r ∈ RL, rv_RlOk r) {Q : State → Prop} {h : Nat × rv_Hd} {N : rv_N} (hwf : rv_wfH K.1.length K.2.2.1.length h.2 = true) (hH : rv_HOk p l e R s m args below meth c Q D cl A cy nL (rv_ho g0 K) (rk0.map (fun r => r.map (rv_rk gr))) h) (hpc : h.1 = N.1) (ha : rv_arr RL K.1.length rk0 h.2 N = true) : rv_OkN p l e R s m args below meth c Q D cl A cy nL ((rv_ho g0 K).1 ++ rv_rf gr rk0, (rv_ho g0 K).2) N := by
  intro g ls H locs RR
  obtain ⟨he, hx, ⟨w1, w2, w3, w4⟩, hh, hl, hP, hD, hS⟩ := RR
  unfold rv_arr at ha
  split at ha
  · rename_i σ1 h1
    split at ha
    · rename_i σ2 h2
      split at ha
      · rename_i σ h3
        rw [Bool.and_eq_true, Bool.and_eq_true, Bool.and_eq_true, Nat.ble_eq, Nat.ble_eq] at ha
        obtain ⟨k1, k2, k3, k4⟩ := ha
        obtain ⟨⟨τ1, e1⟩, q1⟩ := rv_mL_ok he h1
        obtain ⟨⟨τ2, e2⟩, q2⟩ := rv_mV_ok he h2
        obtain ⟨⟨τ3, e3⟩, lX, q3, q4⟩ := rv_mX_w0 (cy := cy) he h3 hx
        obtain ⟨lσ, q5⟩ := rv_mE_ok hRL he (fun k => by rw [Nat.zero_add]) k1
        unfold rv_wfH at hwf
        rw [Bool.and_eq_true, Bool.and_eq_true, Bool.and_eq_true, Bool.and_eq_true, Bool.and_eq_true, Bool.and_eq_true, Nat.ble_eq, Nat.ble_eq] at hwf
        obtain ⟨v0, v1, v2, v3, v4, v5, v6⟩ := hwf
        have eσ : σ = List.range K.1.length ++ (τ1 ++ τ2 ++ τ3) := by rw [e3, e2, e1]; simp only [List.append_assoc]
        have hlv : lv_has ls nL (rv_lv (rv_gs g σ) h.2.2.1) := by
          refine ⟨hl.1, hl.2.1, fun q hq => ?_⟩
          obtain ⟨z, hz, rfl⟩ := List.mem_map.mp hq
          obtain ⟨s1, r1, r2⟩ := q1 (τ2 ++ τ3) z hz
          rw [← List.append_assoc, ← e2, ← e3] at r2
          show ls[z.1]? = some (.val (rv_v (rv_gs g σ) z.2))
          rw [r2]
          exact rv_lk_at r1 hl
        have hst : h.2.2.2.1.map (rv_v (rv_gs g σ)) = N.2.2.2.1.map (rv_v g) := by
          have := q2 τ3
          rw [← e3] at this
          exact this
        have RH : rv_R D cl A s.heap cy nL (rv_ho g0 K) (rv_gs g σ) h.2.1 h.2.2.1 h.2.2.2.1 h.2.2.2.2.1 ls H locs := by
          refine ⟨fun i b hb => ?_, q4, ⟨fun b hb => (rv_wfE_ok v0 hb).1, fun q hq => rv_okb_ok (List.all_eq_true.mp v1 q hq), fun q hq => rv_okb_ok (List.all_eq_true.mp v2 q hq), fun q hq => rv_okcb_ok (List.all_eq_true.mp v3 q hq)⟩, ⟨fun q hq => ?_, fun k a hk => ?_, hh.2.2⟩, hlv, by rw [q3]; exact hP, by rw [q3]; exact hD, hS⟩
          · obtain ⟨s1, r1, r2, r3, r4, r5, r6⟩ := q5 i b hb
            rw [Nat.zero_add] at r3 r4 r5
            rw [lσ] at r6
            exact ⟨r3, r4, r5, r6⟩
          · obtain ⟨i, hi, rfl⟩ := List.mem_map.mp hq
            have hi := List.mem_range.mp hi
            refine ⟨by show i < _; omega, ?_⟩
            show rv_z (rv_gs g σ) i = rv_z g0 i
            rw [rv_gs_z (s := i) (by rw [eσ]; exact rv_range_at hi _)]
            exact (hh.1 (i, rv_z g0 i) (List.mem_append_left _ hq)).2
          · have := hh.2.1 k a hk
            exact ⟨by rw [lX]; exact this.1, this.2⟩
        have hlim : ∀ v, rk0.map (fun r => r.map (rv_rk gr)) = some v → rv_ll (h.2.2.2.2.2.2.2.map (rv_rk (rv_gs g σ))) v := by
          intro v hv
          cases hr : rk0 with
          | none => rw [hr] at hv; cases hv
          | some r =>
            rw [hr] at hv k4 hh
            have hv := Option.some.inj hv
            subst hv
            refine rv_lx_ok hRL he (fun o ho h12 => ?_) k4
            have hm : (o.2.2, rv_z gr o.2.2) ∈ rv_rf gr (some r) := List.mem_map.mpr ⟨o, List.mem_filter.mpr ⟨ho, by rw [Nat.ble_eq]; exact h12⟩, rfl⟩
            exact (hh.1 _ (List.mem_append_right _ hm)).2
        have h9 := hH (rv_gs g σ) ls H locs RH hlim
        rw [hst, hpc] at h9
        exact W.widen k2 k3 h9
      · cases ha
    · cases ha
  · cases ha
theorem rv_seg_ok (hRL : ∀ r ∈ RL, rv_RlOk r) (hwfK : rv_wfK K = true) (hst : g0.2.2.2 = st) (Cx : rv_Cx p s m args c cc own nL Ts D cl cy A st) (hT : rv_TOk own Ts cl T) (hP : rv_POk R meth nL P) (hr : meth.sig.returnType = ret) (hlocks : meth.locks = false) (hpr : ∀ q ∈ pr, decode cc q.1 = .ok (q.2.1, q.2.2))
    (hCT : ∀ q ∈ CT, rv_wfK q.2 = true ∧ rv_CallOk p l e R s m args below meth c (MQ below (rv_Qc D cl cy g0 K A) args s K.2.2.2.2.1 K.2.2.2.2.2 A) D cl A cy nL st q.1 q.2)
    (hHD : ∀ q ∈ HD, rv_wfH K.1.length K.2.2.1.length q.2 = true ∧ rv_HOk p l e R s m args below meth c (MQ below (rv_Qc D cl cy g0 K A) args s K.2.2.2.2.1 K.2.2.2.2.2 A) D cl A cy nL (rv_ho g0 K) (rk0.map (fun r => r.map (rv_rk gr))) q) :
    ∀ (f : Nat) (N : rv_N), rv_seg RL DT T P pr CT HD K (rv_rt ret) rk0 f N = true → rv_OkN p l e R s m args below meth c (MQ below (rv_Qc D cl cy g0 K A) args s K.2.2.2.2.1 K.2.2.2.2.2 A) D cl A cy nL ((rv_ho g0 K).1 ++ rv_rf gr rk0, (rv_ho g0 K).2) N
  | 0, N, h => by cases h
  | f + 1, N, h => by
    have ih := rv_seg_ok hRL hwfK hst Cx hT hP hr hlocks hpr hCT hHD f
    have nxt : ∀ S : rv_N, rv_nx RL DT HD K rk0 (rv_seg RL DT T P pr CT HD K (rv_rt ret) rk0 f) S = true → rv_OkN p l e R s m args below meth c (MQ below (rv_Qc D cl cy g0 K A) args s K.2.2.2.2.1 K.2.2.2.2.2 A) D cl A cy nL ((rv_ho g0 K).1 ++ rv_rf gr rk0, (rv_ho g0 K).2) S := by
      intro S hS
      have one : ∀ S : rv_N, (rv_anyH RL K rk0 S HD || rv_seg RL DT T P pr CT HD K (rv_rt ret) rk0 f S) = true → rv_OkN p l e R s m args below meth c (MQ below (rv_Qc D cl cy g0 K A) args s K.2.2.2.2.1 K.2.2.2.2.2 A) D cl A cy nL ((rv_ho g0 K).1 ++ rv_rf gr rk0, (rv_ho g0 K).2) S := by
        intro S hS
        rw [Bool.or_eq_true] at hS
        rcases hS with hS | hS
        · obtain ⟨hd, f1, f2, f3⟩ := rv_anyH_ok hS
          obtain ⟨g1, g2⟩ := hHD hd f1
          exact rv_arr_ok hRL g1 g2 f2 f3
        · exact ih S hS
      unfold rv_nx at hS
      rw [rv_fS_eq] at hS
      cases hh : rv_hasD DT S.1 with
      | false =>
        rw [hh] at hS
        exact one S hS
      | true =>
        rw [hh] at hS
        simp only [cond_true] at hS
        refine rv_dirs_ok (ds := DT) hRL fun N' hN => ?_
        rw [hN] at hS
        exact one N' hS
    have h : rv_body RL DT T P pr CT HD K (rv_rt ret) rk0 (rv_seg RL DT T P pr CT HD K (rv_rt ret) rk0 f) N = true := h
    unfold rv_body at h
    split at h
    · rename_i q hq
      obtain ⟨f1, f2⟩ := rv_fnd_ok hq
      rw [Bool.and_eq_true, Bool.or_eq_true, Bool.and_eq_true] at h
      obtain ⟨h1, h2⟩ := h
      have hd := hpr q f1
      rw [f2] at hd
      rcases h2 with ⟨h2, h3⟩ | h2
      · rw [Nat.eq_of_beq_eq_true h2] at hd
        exact rv_end_ok hRL hwfK Cx hr hlocks (fun z hz => List.mem_append_left _ hz) rfl hd h3
      · split at h2
        · rename_i S hS
          obtain ⟨k, c1, c2, c5⟩ := rv_pick_ok hS
          obtain ⟨c3, c4⟩ := hCT k c1
          rw [c2] at c4
          have P4 := hP.2.2.2.1
          have P5 := hP.2.2.2.2.1
          rw [← P4, ← P5] at c5
          exact rv_call_ok hRL c3 hst c4 c5 (fun z hz => by rw [List.mem_singleton.mp hz]; exact nxt S h2)
        · rename_i Ns _ hS
          obtain ⟨k, c1, c2, c5⟩ := rv_pick_ok hS
          obtain ⟨c3, c4⟩ := hCT k c1
          rw [c2] at c4
          have P4 := hP.2.2.2.1
          have P5 := hP.2.2.2.2.1
          rw [← P4, ← P5] at c5
          exact rv_call_ok hRL c3 hst c4 c5 (fun S hS => nxt S (List.all_eq_true.mp h2 S hS))
        · split at h2
          · rename_i S hNs
            exact rv_step_ok Cx hst hT hP hd h1 hNs (fun z hz => by rw [List.mem_singleton.mp hz]; exact nxt S h2)
          · rename_i Ns hNs
            exact rv_step_ok Cx hst hT hP hd h1 hNs (fun S hS => nxt S (List.all_eq_true.mp h2 S hS))
          · cases h2
    · cases h
/-- all heads: by their ranks -/
theorem rv_heads_ok (hRL : ∀ r ∈ RL, rv_RlOk r) (hwfK : rv_wfK K = true) (hst : g0.2.2.2 = st) (Cx : rv_Cx p s m args c cc own nL Ts D cl cy A st) (hT : rv_TOk own Ts cl T) (hP : rv_POk R meth nL P) (hr : meth.sig.returnType = ret) (hlocks : meth.locks = false) (hpr : ∀ q ∈ pr, decode cc q.1 = .ok (q.2.1, q.2.2))
    (hCT : ∀ q ∈ CT, rv_wfK q.2 = true ∧ rv_CallOk p l e R s m args below meth c (MQ below (rv_Qc D cl cy g0 K A) args s K.2.2.2.2.1 K.2.2.2.2.2 A) D cl A cy nL st q.1 q.2) {fu : Nat}
    (hHD : HD.all (fun q => rv_wfH K.1.length K.2.2.1.length q.2 && rv_seg RL DT T P pr CT HD K (rv_rt ret) (some q.2.2.2.2.2.2.2) fu (q.1, q.2.1, q.2.2.1, q.2.2.2.1, q.2.2.2.2.1, q.2.2.2.2.2.1, q.2.2.2.2.2.2.1)) = true) :
    ∀ q ∈ HD, rv_HOk p l e R s m args below meth c (MQ below (rv_Qc D cl cy g0 K A) args s K.2.2.2.2.1 K.2.2.2.2.2 A) D cl A cy nL (rv_ho g0 K) none q := by
  have main : ∀ (n : Nat) (v : List Nat), Acc rv_ll v → v.length = n → ∀ q ∈ HD, ∀ (g : rv_G) (ls : Array Slot) (H : Heap) (locs : List Loc), rv_R D cl A s.heap cy nL (rv_ho g0 K) g q.2.1 q.2.2.1 q.2.2.2.1 q.2.2.2.2.1 ls H locs → q.2.2.2.2.2.2.2.map (rv_rk g) = v → W p l e R s m args below meth c H locs q.2.2.2.2.2.1 q.2.2.2.2.2.2.1 (MQ below (rv_Qc D cl cy g0 K A) args s K.2.2.2.2.1 K.2.2.2.2.2 A) (F0 m q.1 ls (q.2.2.2.1.map (rv_v g))) := by
    intro n v hacc
    induction hacc with
    | intro v _ ih =>
      intro hlen q hq g ls H locs RR hv
      have hq1 := List.all_eq_true.mp hHD q hq
      rw [Bool.and_eq_true] at hq1
      have hwf := hq1.1
      unfold rv_wfH at hwf
      rw [Bool.and_eq_true, Bool.and_eq_true, Bool.and_eq_true, Bool.and_eq_true, Bool.and_eq_true, Bool.and_eq_true] at hwf
      have hids := hwf.2.2.2.2.2.2
      have hl2 : ∀ (x y : List Nat), rv_ll x y → x.length = y.length := by
        intro x
        induction x with
        | nil => intro y hy; cases y <;> cases hy
        | cons c cs ihc =>
          intro y hy
          cases y with
          | nil => cases hy
          | cons d ds =>
            rcases hy with ⟨-, z⟩ | ⟨-, z⟩
            · simp [z]
            · simp [ihc ds z]
      have RR2 : rv_R D cl A s.heap cy nL ((rv_ho g0 K).1 ++ rv_rf g (some q.2.2.2.2.2.2.2), (rv_ho g0 K).2) g q.2.1 q.2.2.1 q.2.2.2.1 q.2.2.2.2.1 ls H locs := by
        obtain ⟨a1, a2, a3, a4, a5⟩ := RR
        refine ⟨a1, a2, a3, ⟨fun z hz => ?_, a4.2⟩, a5⟩
        rcases List.mem_append.mp hz with h | h
        · exact a4.1 z h
        · obtain ⟨o, ho, rfl⟩ := List.mem_map.mp h
          have := List.all_eq_true.mp hids o (List.mem_filter.mp ho).1
          rw [Nat.ble_eq] at this
          exact ⟨by show o.2.2 < _; omega, rfl⟩
      refine rv_seg_ok (gr := g) (rk0 := some q.2.2.2.2.2.2.2) hRL hwfK hst Cx hT hP hr hlocks hpr hCT (fun z hz => ?_) fu _ hq1.2 g ls H locs RR2
      have hz1 := List.all_eq_true.mp hHD z hz
      rw [Bool.and_eq_true] at hz1
      refine ⟨hz1.1, fun g' ls' H' locs' R' hlim => ?_⟩
      have h7 : rv_ll (z.2.2.2.2.2.2.2.map (rv_rk g')) (q.2.2.2.2.2.2.2.map (rv_rk g)) := hlim _ rfl
      rw [hv] at h7
      exact ih _ h7 (by rw [hl2 _ _ h7]; exact hlen) z hz g' ls' H' locs' R' rfl
  intro q hq g ls H locs RR _
  exact main _ _ (rv_ll_acc _ _ rfl) rfl q hq g ls H locs RR rfl
end
