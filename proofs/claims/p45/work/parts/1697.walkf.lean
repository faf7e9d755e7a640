/-! the walk over such environments -/
theorem rv_drp_mem {α : Type} : ∀ (n : Nat) (l : List α) (q : α), q ∈ rv_drp n l → q ∈ l
  | 0, _, _, h => h
  | _ + 1, [], _, h => h
  | n + 1, _ :: l, q, h => List.mem_cons_of_mem _ (rv_drp_mem n l q h)
theorem rv_sfx_mem {α : Type} : ∀ (m : Nat) (l l' : List α), l' ∈ rv_sfx m l → ∀ q ∈ l', q ∈ l
  | 0, _, _, h, _, _ => by cases h
  | m + 1, l, l', h, q, hq => by
    have h : l' ∈ l :: rv_sfx m (rv_drp 16 l) := h
    rcases List.mem_cons.mp h with z | z
    · rw [← z]; exact hq
    · exact rv_drp_mem 16 l q (rv_sfx_mem m _ l' z q hq)
noncomputable def rf_blk (PS : List (List (Nat × Instr × Nat))) (cur : List (Nat × Instr × Nat)) (pc : Nat) : List (Nat × Instr × Nat) := match PS with
  | [] => cur
  | l :: r => match l with
    | [] => cur
    | q :: t => bif Nat.ble q.1 pc then rf_blk r (q :: t) pc else cur
theorem rf_blk_ok {pr : List (Nat × Instr × Nat)} {pc : Nat} : ∀ {PS : List (List (Nat × Instr × Nat))} {cur : List (Nat × Instr × Nat)}, (∀ l ∈ PS, ∀ q ∈ l, q ∈ pr) → (∀ q ∈ cur, q ∈ pr) → ∀ q ∈ rf_blk PS cur pc, q ∈ pr
  | [], _, _, h2, q, hq => h2 q hq
  | [] :: _, _, _, h2, q, hq => h2 q hq
  | (z :: t) :: r, cur, h1, h2, q, hq => by
    unfold rf_blk at hq
    dsimp only at hq
    cases hb : Nat.ble z.1 pc with
    | true =>
      rw [hb] at hq
      exact rf_blk_ok (fun l hl => h1 l (List.mem_cons_of_mem _ hl)) (h1 _ List.mem_cons_self) q hq
    | false =>
      rw [hb] at hq
      exact h2 q hq
noncomputable def rf_fnd (pr : List (Nat × Instr × Nat)) (pc : Nat) : Option (Nat × Instr × Nat) := rv_fnd (rf_blk (rv_sfx 24 pr) pr pc) pc
theorem rf_fnd_ok {pr : List (Nat × Instr × Nat)} {pc : Nat} {q : Nat × Instr × Nat} (h : rf_fnd pr pc = some q) : q ∈ pr ∧ q.1 = pc := by
  obtain ⟨h1, h2⟩ := rv_fnd_ok h
  exact ⟨rf_blk_ok (rv_sfx_mem 24 pr) (fun _ z => z) q h1, h2⟩
def rf_hasH (HD : List (Nat × rv_Hd)) (pc : Nat) : Bool := match HD with
  | [] => false
  | h :: r => bif Nat.beq h.1 pc then true else rf_hasH r pc
noncomputable def rf_one (RL : List rv_Rl) (HD : List (Nat × rv_Hd)) (K : rv_K) (rk0 : Option (List rv_Rk)) (ih : rv_M → Bool) (M : rv_M) : Bool := bif rf_hasH HD M.1 then rf_mat M.2.1 (fun E => rv_anyG RL K.1.length rk0 (M.1, E, M.2.2) (rv_sfx 24 E) HD || rf_ofK E (fun F => ih (M.1, F, M.2.2))) else ih M
noncomputable def rf_nx (RL : List rv_Rl) (DT : List rv_Dt) (HD : List (Nat × rv_Hd)) (K : rv_K) (rk0 : Option (List rv_Rk)) (ih : rv_M → Bool) (M : rv_M) : Bool := bif rv_hasD DT M.1 then rf_mat M.2.1 (fun E => match rv_dirsF RL (M.1, E, M.2.2) DT with
  | some S' => rv_fD S' (fun S => rf_ofK S.2.1 (fun F => rf_one RL HD K rk0 ih (S.1, F, S.2.2)))
  | none => true) else rf_one RL HD K rk0 ih M
noncomputable def rf_nxN (RL : List rv_Rl) (DT : List rv_Dt) (HD : List (Nat × rv_Hd)) (K : rv_K) (rk0 : Option (List rv_Rk)) (ih : rv_M → Bool) (S : rv_N) : Bool := rv_fD S (fun S => rf_ofK S.2.1 (fun F => rf_nx RL DT HD K rk0 ih (S.1, F, S.2.2)))
noncomputable def rf_nxM (RL : List rv_Rl) (DT : List rv_Dt) (HD : List (Nat × rv_Hd)) (K : rv_K) (rk0 : Option (List rv_Rk)) (ih : rv_M → Bool) (M : rv_M) : Bool := rv_fn M.1 (fun pc => rf_nx RL DT HD K rk0 ih (pc, M.2))
noncomputable def rf_all {α : Type} (k : α → Bool) (Ns : List α) : Bool := match Ns with
  | [] => true
  | [S] => k S
  | S :: r => k S && rf_all k r
theorem rf_all_ok {α : Type} {k : α → Bool} : ∀ {Ns : List α}, rf_all k Ns = true → ∀ S ∈ Ns, k S = true
  | [], _, S, hS => by cases hS
  | [Z], h, S, hS => by rw [List.mem_singleton.mp hS]; exact h
  | Z :: Y :: r, h, S, hS => by
    have h : (k Z && rf_all k (Y :: r)) = true := h
    rw [Bool.and_eq_true] at h
    rcases List.mem_cons.mp hS with e | e
    · rw [e]; exact h.1
    · exact rf_all_ok h.2 S e
noncomputable def rf_body (RL : List rv_Rl) (DT : List rv_Dt) (T : rv_T) (P : rv_P) (pr : List (Nat × Instr × Nat)) (CT : List (Nat × rv_K)) (HD : List (Nat × rv_Hd)) (K : rv_K) (rt : Nat) (rk0 : Option (List rv_Rk)) (ih : rv_M → Bool) (M : rv_M) : Bool := match rf_fnd pr M.1 with
  | some q => rv_ln q.2.1 q.2.2 && (bif rv_noC CT M.1 then (match rf_step T P q.2.1 M.1 M.2.1 M.2.2.1 M.2.2.2.1 M.2.2.2.2.1 M.2.2.2.2.2.1 M.2.2.2.2.2.2 with
      | some Ms => rf_all (rf_nxM RL DT HD K rk0 ih) Ms
      | none => rf_mat M.2.1 (fun E => (Nat.beq q.2.2 1 && rv_endF RL K rt q.2.1 E M.2.2.2.1 M.2.2.2.2.1 M.2.2.2.2.2.1 M.2.2.2.2.2.2) || (match rv_step T P q.2.1 M.1 E M.2.2.1 M.2.2.2.1 M.2.2.2.2.1 M.2.2.2.2.2.1 M.2.2.2.2.2.2 with
        | some Ns => rf_all (rf_nxN RL DT HD K rk0 ih) Ns
        | none => false))) else rf_mat M.2.1 (fun E => match rv_pickF RL P.2.2.2.2.1 P.2.2.2.2.2.1 (rv_sfx 24 E) (M.1, E, M.2.2) CT with
      | some Ns => rf_all (rf_nxN RL DT HD K rk0 ih) Ns
      | none => false))
  | none => false
noncomputable def rf_seg (RL : List rv_Rl) (DT : List rv_Dt) (T : rv_T) (P : rv_P) (pr : List (Nat × Instr × Nat)) (CT : List (Nat × rv_K)) (HD : List (Nat × rv_Hd)) (K : rv_K) (rt : Nat) (rk0 : Option (List rv_Rk)) (f : Nat) : rv_M → Bool := Nat.rec (fun _ => false) (fun _ ih M => rf_body RL DT T P pr CT HD K rt rk0 ih M) f
/-- from a plain state -/
noncomputable def rf_segN (RL : List rv_Rl) (DT : List rv_Dt) (T : rv_T) (P : rv_P) (pr : List (Nat × Instr × Nat)) (CT : List (Nat × rv_K)) (HD : List (Nat × rv_Hd)) (K : rv_K) (rt : Nat) (rk0 : Option (List rv_Rk)) (f : Nat) (N : rv_N) : Bool := rv_fp N.2.1 (fun E => rf_ofK E (fun F => rf_seg RL DT T P pr CT HD K rt rk0 f (N.1, F, N.2.2)))
section
variable {p : Program} {l : Launch} {e : Env} {R : Room} {s : State} {m : MethodId} {args : Array Value} {below : List Frame} {meth : Method} {c : Code} {D : va_G} {cl : List vw_C} {A : Nat → Prop} {cy : Nat → ClassId} {nL : Nat}
variable {cc : ByteArray} {own : String} {Ts : List Jvm.Cond} {K : rv_K} {g0 gr : rv_G} {ret : Option FieldType} {T : rv_T} {P : rv_P} {pr : List (Nat × Instr × Nat)} {CT : List (Nat × rv_K)} {HD : List (Nat × rv_Hd)} {rk0 : Option (List rv_Rk)} {RL : List rv_Rl} {DT : List rv_Dt} {st : Nat → Nat}
theorem rf_seg_ok (hRL : ∀ r ∈ RL, rv_RlOk r) (hwfK : rv_wfK K = true) (hst : g0.2.2.2 = st) (Cx : rv_Cx p s m args c cc own nL Ts D cl cy A st) (hT : rv_TOk own Ts cl T) (hP : rv_POk R meth nL P) (hr : meth.sig.returnType = ret) (hlocks : meth.locks = false) (hpr : ∀ q ∈ pr, decode cc q.1 = .ok (q.2.1, q.2.2))
    (hCT : ∀ q ∈ CT, rv_wfK q.2 = true ∧ rv_CallOk p l e R s m args below meth c (MQ below (rv_Qc D cl cy g0 K A) args s K.2.2.2.2.1 K.2.2.2.2.2 A) D cl A cy nL st q.1 q.2)
    (hHD : ∀ q ∈ HD, rv_wfH K.1.length K.2.2.1.length q.2 = true ∧ rv_HOk p l e R s m args below meth c (MQ below (rv_Qc D cl cy g0 K A) args s K.2.2.2.2.1 K.2.2.2.2.2 A) D cl A cy nL (rv_ho g0 K) (rk0.map (fun r => r.map (rv_rk gr))) q) :
    ∀ (f : Nat) (M : rv_M), rf_seg RL DT T P pr CT HD K (rv_rt ret) rk0 f M = true → rf_I M.2.1 → rv_OkN p l e R s m args below meth c (MQ below (rv_Qc D cl cy g0 K A) args s K.2.2.2.2.1 K.2.2.2.2.2 A) D cl A cy nL ((rv_ho g0 K).1 ++ rv_rf gr rk0, (rv_ho g0 K).2) (rf_toN M)
  | 0, M, h, _ => by cases h
  | f + 1, M, h, hI => by
    have ih := rf_seg_ok hRL hwfK hst Cx hT hP hr hlocks hpr hCT hHD f
    have one : ∀ M : rv_M, rf_one RL HD K rk0 (rf_seg RL DT T P pr CT HD K (rv_rt ret) rk0 f) M = true → rf_I M.2.1 → rv_OkN p l e R s m args below meth c (MQ below (rv_Qc D cl cy g0 K A) args s K.2.2.2.2.1 K.2.2.2.2.2 A) D cl A cy nL ((rv_ho g0 K).1 ++ rv_rf gr rk0, (rv_ho g0 K).2) (rf_toN M) := by
      intro M hM hI
      unfold rf_one at hM
      cases hh : rf_hasH HD M.1 with
      | false =>
        rw [hh] at hM
        exact ih M hM hI
      | true =>
        rw [hh] at hM
        simp only [cond_true] at hM
        rw [rf_mat_eq, Bool.or_eq_true] at hM
        rcases hM with hM | hM
        · obtain ⟨hd, f1, f2, f3⟩ := rv_anyH_ok (S := rf_toN M) (rv_anyG_ok (N := rf_toN M) hM)
          obtain ⟨g1, g2⟩ := hHD hd f1
          exact rv_arr_ok hRL g1 g2 f2 f3
        · rw [rf_ofK_eq] at hM
          have h3 := ih (M.1, rf_of (rf_toE M.2.1), M.2.2) hM (rf_of_I _)
          unfold rf_toN at h3
          dsimp only at h3
          rw [rf_of_eq] at h3
          exact h3
    have nxt : ∀ M : rv_M, rf_nx RL DT HD K rk0 (rf_seg RL DT T P pr CT HD K (rv_rt ret) rk0 f) M = true → rf_I M.2.1 → rv_OkN p l e R s m args below meth c (MQ below (rv_Qc D cl cy g0 K A) args s K.2.2.2.2.1 K.2.2.2.2.2 A) D cl A cy nL ((rv_ho g0 K).1 ++ rv_rf gr rk0, (rv_ho g0 K).2) (rf_toN M) := by
      intro M hM hI
      unfold rf_nx at hM
      cases hh : rv_hasD DT M.1 with
      | false =>
        rw [hh] at hM
        exact one M hM hI
      | true =>
        rw [hh] at hM
        simp only [cond_true] at hM
        rw [rf_mat_eq, rv_dirsF_eq] at hM
        refine rv_dirs_ok (ds := DT) (N := rf_toN M) hRL fun N' hN => ?_
        have hN : rv_dirs RL (M.1, rf_toE M.2.1, M.2.2) DT = some N' := hN
        rw [hN] at hM
        dsimp only at hM
        rw [rv_fD_eq, rf_ofK_eq] at hM
        have h3 := one (N'.1, rf_of N'.2.1, N'.2.2) hM (rf_of_I _)
        unfold rf_toN at h3
        dsimp only at h3
        rw [rf_of_eq] at h3
        exact h3
    have nxN : ∀ S : rv_N, rf_nxN RL DT HD K rk0 (rf_seg RL DT T P pr CT HD K (rv_rt ret) rk0 f) S = true → rv_OkN p l e R s m args below meth c (MQ below (rv_Qc D cl cy g0 K A) args s K.2.2.2.2.1 K.2.2.2.2.2 A) D cl A cy nL ((rv_ho g0 K).1 ++ rv_rf gr rk0, (rv_ho g0 K).2) S := by
      intro S hS
      unfold rf_nxN at hS
      rw [rv_fD_eq, rf_ofK_eq] at hS
      have h3 := nxt (S.1, rf_of S.2.1, S.2.2) hS (rf_of_I _)
      unfold rf_toN at h3
      dsimp only at h3
      rw [rf_of_eq] at h3
      exact h3
    have h : rf_body RL DT T P pr CT HD K (rv_rt ret) rk0 (rf_seg RL DT T P pr CT HD K (rv_rt ret) rk0 f) M = true := h
    unfold rf_body at h
    split at h
    · rename_i q hq
      obtain ⟨f1, f2⟩ := rf_fnd_ok hq
      rw [Bool.and_eq_true] at h
      obtain ⟨h1, h2⟩ := h
      have hd := hpr q f1
      rw [f2] at hd
      cases hc : rv_noC CT M.1 with
      | true =>
        rw [hc] at h2
        simp only [cond_true] at h2
        split at h2
        · rename_i Ms hMs
          obtain ⟨e1, e2⟩ := rf_step_ok hI Ms hMs
          exact rv_step_ok Cx hst hT hP hd h1 e1 (fun S hS => by
            obtain ⟨M', m1, rfl⟩ := List.mem_map.mp hS
            have h4 := rf_all_ok h2 M' m1
            unfold rf_nxM at h4
            rw [rv_fn_eq] at h4
            exact nxt M' h4 (e2 M' m1))
        · rw [rf_mat_eq, Bool.or_eq_true, Bool.and_eq_true] at h2
          rcases h2 with ⟨h2, h3⟩ | h2
          · rw [Nat.eq_of_beq_eq_true h2] at hd
            exact rv_end_ok hRL hwfK Cx hr hlocks (fun z hz => List.mem_append_left _ hz) rfl hd (rv_endF_ok h3)
          · split at h2
            · rename_i Ns hNs
              exact rv_step_ok Cx hst hT hP hd h1 hNs (fun S hS => nxN S (rf_all_ok h2 S hS))
            · cases h2
      | false =>
        rw [hc] at h2
        simp only [cond_false] at h2
        rw [rf_mat_eq] at h2
        split at h2
        · rename_i Ns hS
          obtain ⟨k, c1, c2, c5⟩ := rv_pickF_ok (N := rf_toN M) hS
          obtain ⟨c3, c4⟩ := hCT k c1
          rw [c2] at c4
          have P4 := hP.2.2.2.1
          have P5 := hP.2.2.2.2.1
          rw [← P4, ← P5] at c5
          exact rv_call_ok hRL c3 hst c4 c5 (fun S hS => nxN S (rf_all_ok h2 S hS))
        · cases h2
    · cases h
theorem rf_segN_ok (hRL : ∀ r ∈ RL, rv_RlOk r) (hwfK : rv_wfK K = true) (hst : g0.2.2.2 = st) (Cx : rv_Cx p s m args c cc own nL Ts D cl cy A st) (hT : rv_TOk own Ts cl T) (hP : rv_POk R meth nL P) (hr : meth.sig.returnType = ret) (hlocks : meth.locks = false) (hpr : ∀ q ∈ pr, decode cc q.1 = .ok (q.2.1, q.2.2))
    (hCT : ∀ q ∈ CT, rv_wfK q.2 = true ∧ rv_CallOk p l e R s m args below meth c (MQ below (rv_Qc D cl cy g0 K A) args s K.2.2.2.2.1 K.2.2.2.2.2 A) D cl A cy nL st q.1 q.2)
    (hHD : ∀ q ∈ HD, rv_wfH K.1.length K.2.2.1.length q.2 = true ∧ rv_HOk p l e R s m args below meth c (MQ below (rv_Qc D cl cy g0 K A) args s K.2.2.2.2.1 K.2.2.2.2.2 A) D cl A cy nL (rv_ho g0 K) (rk0.map (fun r => r.map (rv_rk gr))) q) :
    ∀ (f : Nat) (N : rv_N), rf_segN RL DT T P pr CT HD K (rv_rt ret) rk0 f N = true → rv_OkN p l e R s m args below meth c (MQ below (rv_Qc D cl cy g0 K A) args s K.2.2.2.2.1 K.2.2.2.2.2 A) D cl A cy nL ((rv_ho g0 K).1 ++ rv_rf gr rk0, (rv_ho g0 K).2) N
  | f, N, h => by
    unfold rf_segN at h
    rw [rv_fp_eq, rf_ofK_eq] at h
    have h3 := rf_seg_ok hRL hwfK hst Cx hT hP hr hlocks hpr hCT hHD f _ h (rf_of_I _)
    unfold rf_toN at h3
    dsimp only at h3
    rw [rf_of_eq] at h3
    exact h3
/-- all heads: by their ranks -/
theorem rf_heads_ok (hRL : ∀ r ∈ RL, rv_RlOk r) (hwfK : rv_wfK K = true) (hst : g0.2.2.2 = st) (Cx : rv_Cx p s m args c cc own nL Ts D cl cy A st) (hT : rv_TOk own Ts cl T) (hP : rv_POk R meth nL P) (hr : meth.sig.returnType = ret) (hlocks : meth.locks = false) (hpr : ∀ q ∈ pr, decode cc q.1 = .ok (q.2.1, q.2.2))
    (hCT : ∀ q ∈ CT, rv_wfK q.2 = true ∧ rv_CallOk p l e R s m args below meth c (MQ below (rv_Qc D cl cy g0 K A) args s K.2.2.2.2.1 K.2.2.2.2.2 A) D cl A cy nL st q.1 q.2) {fu : Nat}
    (hHD : HD.all (fun q => rv_wfH K.1.length K.2.2.1.length q.2 && rf_segN RL DT T P pr CT HD K (rv_rt ret) (some q.2.2.2.2.2.2.2) fu (q.1, q.2.1, q.2.2.1, q.2.2.2.1, q.2.2.2.2.1, q.2.2.2.2.2.1, q.2.2.2.2.2.2.1)) = true) :
    ∀ q ∈ HD, rv_HOk p l e R s m args below meth c (MQ below (rv_Qc D cl cy g0 K A) args s K.2.2.2.2.1 K.2.2.2.2.2 A) D cl A cy nL (rv_ho g0 K) none q := by
  have main : ∀ (n : Nat) (v : List Nat), Acc rv_ll v → v.length = n → ∀ q ∈ HD, ∀ (g : rv_G) (ls : Array Slot) (H : Heap) (locs : List Loc), rv_R D cl A s.heap cy nL (rv_ho g0 K) g q.2.1 q.2.2.1 q.2.2.2.1 q.2.2.2.2.1 ls H locs → q.2.2.2.2.2.2.2.map (rv_rk g) = v → W p l e R s m args below meth c H locs q.2.2.2.2.2.1 q.2.2.2.2.2.2.1 (MQ below (rv_Qc D cl cy g0 K A) args s K.2.2.2.2.1 K.2.2.2.2.2 A) (F0 m q.1 ls (q.2.2.2.1.map (rv_v g))) := by
    intro n v hacc
    induction hacc with
    | intro v _ ih =>
      intro hlen q hq g ls H locs RR hv
      have hq1 := List.all_eq_true.mp hHD q hq
      rw [Bool.and_eq_true] at hq1
      have hwf := hq1.1
      unfold rv_wfH at hwf
      rw [Bool.and_eq_true, Bool.and_eq_true, Bool.and_eq_true, Bool.and_eq_true, Bool.and_eq_true, Bool.and_eq_true] at hwf
      have hids := hwf.2.2.2.2.2.2
      have hl2 : ∀ (x y : List Nat), rv_ll x y → x.length = y.length := by
        intro x
        induction x with
        | nil => intro y hy; cases y <;> cases hy
        | cons c cs ihc =>
          intro y hy
          cases y with
          | nil => cases hy
          | cons d ds =>
            rcases hy with ⟨-, z⟩ | ⟨-, z⟩
            · simp [z]
            · simp [ihc ds z]
      have RR2 : rv_R D cl A s.heap cy nL ((rv_ho g0 K).1 ++ rv_rf g (some q.2.2.2.2.2.2.2), (rv_ho g0 K).2) g q.2.1 q.2.2.1 q.2.2.2.1 q.2.2.2.2.1 ls H locs := by
        obtain ⟨a1, a2, a3, a4, a5⟩ := RR
        refine ⟨a1, a2, a3, ⟨fun z hz => ?_, a4.2⟩, a5⟩
        rcases List.mem_append.mp hz with h | h
        · exact a4.1 z h
        · obtain ⟨o, ho, rfl⟩ := List.mem_map.mp h
          have := List.all_eq_true.mp hids o (List.mem_filter.mp ho).1
          rw [Nat.ble_eq] at this
          exact ⟨by show o.2.2 < _; omega, rfl⟩
      refine rf_segN_ok (gr := g) (rk0 := some q.2.2.2.2.2.2.2) hRL hwfK hst Cx hT hP hr hlocks hpr hCT (fun z hz => ?_) fu _ hq1.2 g ls H locs RR2
      have hz1 := List.all_eq_true.mp hHD z hz
      rw [Bool.and_eq_true] at hz1
      refine ⟨hz1.1, fun g' ls' H' locs' R' hlim => ?_⟩
      have h7 : rv_ll (z.2.2.2.2.2.2.2.map (rv_rk g')) (q.2.2.2.2.2.2.2.map (rv_rk g)) := hlim _ rfl
      rw [hv] at h7
      exact ih _ h7 (by rw [hl2 _ _ h7]; exact hlen) z hz g' ls' H' locs' R' rfl
  intro q hq g ls H locs RR _
  exact main _ _ (rv_ll_acc _ _ rfl) rfl q hq g ls H locs RR rfl
end
