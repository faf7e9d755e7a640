/-! stretches between loop heads, ranks, a method -/
abbrev rv_Hd := List (Int × Int) × List (Nat × rv_V) × List rv_V × List rv_C × Nat × Nat × List (Nat × Int × Nat)
def rv_rk (g : rv_G) (r : Nat × Int × Nat) : Nat := match r.1 with
  | 0 => r.2.1.toNat
  | 1 => (r.2.1 - g.1 r.2.2).toNat
  | _ => (g.1 r.2.2 - r.2.1).toNat
def rv_ll (v w : List Nat) : Prop := match v, w with
  | a :: as, b :: bs => (a < b ∧ as.length = bs.length) ∨ (a = b ∧ rv_ll as bs)
  | _, _ => False
theorem rv_ll_acc : ∀ (n : Nat) (v : List Nat), v.length = n → Acc rv_ll v
  | 0, v, h => by
    have : v = [] := List.length_eq_zero_iff.mp h
    subst this
    exact ⟨_, fun w hw => by cases w <;> cases hw⟩
  | n + 1, v, h => by
    have key : ∀ (a : Nat), (∀ b, b < a → ∀ bs : List Nat, bs.length = n → Acc rv_ll (b :: bs)) → ∀ as : List Nat, as.length = n → Acc rv_ll (a :: as) := by
      intro a ih as has
      have hacc := rv_ll_acc n as has
      revert has
      induction hacc with
      | intro as _ ih2 =>
        intro has
        refine ⟨_, fun w hw => ?_⟩
        cases w with
        | nil => cases hw
        | cons b bs =>
          rcases hw with ⟨h1, h2⟩ | ⟨h1, h2⟩
          · exact ih b h1 bs (by omega)
          · subst h1
            have hl : ∀ (x y : List Nat), rv_ll x y → x.length = y.length := by
              intro x
              induction x with
              | nil => intro y hy; cases y <;> cases hy
              | cons c cs ihc =>
                intro y hy
                cases y with
                | nil => cases hy
                | cons d ds =>
                  rcases hy with ⟨-, z⟩ | ⟨-, z⟩
                  · simp [z]
                  · simp [ihc ds z]
            exact ih2 bs h2 (by rw [hl bs as h2]; exact has)
    cases v with
    | nil => cases h
    | cons a as =>
      have has : as.length = n := by simpa using h
      have all : ∀ (a : Nat), ∀ as : List Nat, as.length = n → Acc rv_ll (a :: as) := fun a => Nat.strongRecOn a (fun a ih => key a ih)
      exact all a as has
def rv_lx (E : List rv_E) (σ : List Nat) (os ns : List (Nat × Int × Nat)) : Bool := match os, ns with
  | o :: os, n :: ns => match o.1, n.1 with
    | 0, 0 => bif rv_le 0 n.2.1 && (rv_le (n.2.1 + 1) o.2.1 && Nat.beq ns.length os.length) then true else (rv_le n.2.1 o.2.1 && (rv_le o.2.1 n.2.1 && rv_lx E σ os ns))
    | 1, 1 => rv_le n.2.1 o.2.1 && (rv_le o.2.1 n.2.1 && (match σ[n.2.2]? with
      | some s => match E[s]? with
        | some e => Nat.beq e.2.2.1 o.2.2 && (bif rv_le 1 e.2.2.2 && (rv_le e.2.1 o.2.1 && Nat.beq ns.length os.length) then true else (rv_iz e.2.2.2 && rv_lx E σ os ns))
        | none => false
      | none => false))
    | 2, 2 => rv_le n.2.1 o.2.1 && (rv_le o.2.1 n.2.1 && (match σ[n.2.2]? with
      | some s => match E[s]? with
        | some e => Nat.beq e.2.2.1 o.2.2 && (bif rv_le e.2.2.2 (Int.negSucc 0) && (rv_le o.2.1 e.1 && Nat.beq ns.length os.length) then true else (rv_iz e.2.2.2 && rv_lx E σ os ns))
        | none => false
      | none => false))
    | _, _ => false
  | _, _ => false
theorem rv_lx_ok {g gr : rv_G} {E : List rv_E} (he : rv_e g E) {σ : List Nat} : ∀ {os ns : List (Nat × Int × Nat)}, (∀ o ∈ os, o.1 = 1 ∨ o.1 = 2 → g.1 o.2.2 = gr.1 o.2.2) → rv_lx E σ os ns = true → rv_ll (ns.map (rv_rk (rv_gs g σ))) (os.map (rv_rk gr))
  | [], [], _, h => by cases h
  | [], _ :: _, _, h => by cases h
  | _ :: _, [], _, h => by cases h
  | (ok, ob, oi) :: os, (nk, nb, ni) :: ns, hg, h => by
    have hg2 : ∀ o ∈ os, o.1 = 1 ∨ o.1 = 2 → g.1 o.2.2 = gr.1 o.2.2 := fun o ho => hg o (List.mem_cons_of_mem _ ho)
    unfold rv_lx at h
    split at h
    · rename_i h1 h2
      have h1 : ok = 0 := h1
      have h2 : nk = 0 := h2
      subst h1; subst h2
      dsimp only at h
      show (nb.toNat < ob.toNat ∧ _) ∨ (nb.toNat = ob.toNat ∧ _)
      cases hc : (rv_le 0 nb && (rv_le (nb + 1) ob && Nat.beq ns.length os.length)) with
      | true =>
        rw [Bool.and_eq_true, Bool.and_eq_true, rv_le_iff, rv_le_iff] at hc
        exact Or.inl ⟨by omega, by rw [List.length_map, List.length_map]; exact Nat.eq_of_beq_eq_true hc.2.2⟩
      | false =>
        simp only [hc, cond_false] at h
        rw [Bool.and_eq_true, Bool.and_eq_true, rv_le_iff, rv_le_iff] at h
        have e1 : nb = ob := by omega
        exact Or.inr ⟨by rw [e1], rv_lx_ok he hg2 h.2.2⟩
    · rename_i h1 h2
      have h1 : ok = 1 := h1
      have h2 : nk = 1 := h2
      subst h1; subst h2
      dsimp only at h
      rw [Bool.and_eq_true, Bool.and_eq_true, rv_le_iff, rv_le_iff] at h
      obtain ⟨b1, b2, h⟩ := h
      have e1 : nb = ob := by omega
      subst e1
      split at h
      · rename_i s hs
        split at h
        · rename_i ee hE
          rw [Bool.and_eq_true] at h
          obtain ⟨h3, h4⟩ := h
          have h3 : ee.2.2.1 = oi := Nat.eq_of_beq_eq_true h3
          obtain ⟨z1, z2, z3⟩ := he s ee hE
          rw [h3] at z3
          have hgo : g.1 oi = gr.1 oi := hg (1, nb, oi) List.mem_cons_self (Or.inl rfl)
          have hns : (rv_gs g σ).1 ni = g.1 s := rv_gs_at hs
          show ((nb - (rv_gs g σ).1 ni).toNat < (nb - gr.1 oi).toNat ∧ _) ∨ ((nb - (rv_gs g σ).1 ni).toNat = (nb - gr.1 oi).toNat ∧ _)
          rw [hns, ← hgo]
          cases hc : (rv_le 1 ee.2.2.2 && (rv_le ee.2.1 nb && Nat.beq ns.length os.length)) with
          | true =>
            rw [Bool.and_eq_true, Bool.and_eq_true, rv_le_iff, rv_le_iff] at hc
            exact Or.inl ⟨by omega, by rw [List.length_map, List.length_map]; exact Nat.eq_of_beq_eq_true hc.2.2⟩
          | false =>
            simp only [hc, cond_false] at h4
            rw [Bool.and_eq_true] at h4
            have := rv_iz_ok h4.1
            exact Or.inr ⟨by rw [this] at z3; omega, rv_lx_ok he hg2 h4.2⟩
        · cases h
      · cases h
    · rename_i h1 h2
      have h1 : ok = 2 := h1
      have h2 : nk = 2 := h2
      subst h1; subst h2
      dsimp only at h
      rw [Bool.and_eq_true, Bool.and_eq_true, rv_le_iff, rv_le_iff] at h
      obtain ⟨b1, b2, h⟩ := h
      have e1 : nb = ob := by omega
      subst e1
      split at h
      · rename_i s hs
        split at h
        · rename_i ee hE
          rw [Bool.and_eq_true] at h
          obtain ⟨h3, h4⟩ := h
          have h3 : ee.2.2.1 = oi := Nat.eq_of_beq_eq_true h3
          obtain ⟨z1, z2, z3⟩ := he s ee hE
          rw [h3] at z3
          have hgo : g.1 oi = gr.1 oi := hg (2, nb, oi) List.mem_cons_self (Or.inr rfl)
          have hns : (rv_gs g σ).1 ni = g.1 s := rv_gs_at hs
          have hm : (Int.negSucc 0) = (-1 : Int) := rfl
          show (((rv_gs g σ).1 ni - nb).toNat < (gr.1 oi - nb).toNat ∧ _) ∨ (((rv_gs g σ).1 ni - nb).toNat = (gr.1 oi - nb).toNat ∧ _)
          rw [hns, ← hgo]
          cases hc : (rv_le ee.2.2.2 (Int.negSucc 0) && (rv_le nb ee.1 && Nat.beq ns.length os.length)) with
          | true =>
            rw [Bool.and_eq_true, Bool.and_eq_true, rv_le_iff, rv_le_iff, hm] at hc
            exact Or.inl ⟨by omega, by rw [List.length_map, List.length_map]; exact Nat.eq_of_beq_eq_true hc.2.2⟩
          | false =>
            simp only [hc, cond_false] at h4
            rw [Bool.and_eq_true] at h4
            have := rv_iz_ok h4.1
            exact Or.inr ⟨by rw [this] at z3; omega, rv_lx_ok he hg2 h4.2⟩
        · cases h
      · cases h
    · cases h
def rv_mL (E : List rv_E) (src : List (Nat × rv_V)) (σ : List Nat) (tl : List (Nat × rv_V)) : Option (List Nat) := match tl with
  | [] => some σ
  | q :: r => match rv_lk src q.1 with
    | some s => match rv_m1 E σ q.2 s with
      | some σ' => rv_mL E src σ' r
      | none => none
    | none => none
theorem rv_mL_ok {g : rv_G} {E : List rv_E} (he : rv_e g E) {src : List (Nat × rv_V)} : ∀ {tl : List (Nat × rv_V)} {σ σ' : List Nat}, rv_mL E src σ tl = some σ' → (∃ τ, σ' = σ ++ τ) ∧ ∀ τ, ∀ q ∈ tl, ∃ s, rv_lk src q.1 = some s ∧ rv_v (rv_gs g (σ' ++ τ)) q.2 = rv_v g s
  | [], σ, σ', h => by
    have h : σ = σ' := Option.some.inj h
    subst h
    exact ⟨⟨[], by simp⟩, fun _ q hq => by cases hq⟩
  | q :: r, σ, σ', h => by
    unfold rv_mL at h
    cases h0 : rv_lk src q.1 with
    | none => rw [h0] at h; cases h
    | some s =>
      rw [h0] at h
      dsimp only at h
      cases h1 : rv_m1 E σ q.2 s with
      | none => rw [h1] at h; cases h
      | some σ1 =>
        rw [h1] at h
        obtain ⟨⟨τ1, e1⟩, q1⟩ := rv_m1_ok he h1
        obtain ⟨⟨τ2, e2⟩, q2⟩ := rv_mL_ok he h
        refine ⟨⟨τ1 ++ τ2, by rw [e2, e1, List.append_assoc]⟩, fun τ z hz => ?_⟩
        rcases List.mem_cons.mp hz with hz | hz
        · refine ⟨s, by rw [hz]; exact h0, ?_⟩
          rw [hz]
          have q3 := q1 (τ2 ++ τ)
          rw [← List.append_assoc, ← e2] at q3
          exact q3
        · exact q2 τ z hz
def rv_arr (pn : Nat) (rk0 : Option (List (Nat × Int × Nat))) (h : rv_Hd) (N : rv_N) : Bool := match rv_mL N.2.1 N.2.2.1 (List.range pn) h.2.1 with
  | some σ1 => match rv_mV N.2.1 σ1 h.2.2.1 N.2.2.2.1 with
    | some σ2 => match rv_mX N.2.1 σ2 h.2.2.2.1 N.2.2.2.2.1 with
      | some σ => rv_mE N.2.1 h.1 σ && (Nat.ble N.2.2.2.2.2.1 h.2.2.2.2.1 && (Nat.ble N.2.2.2.2.2.2 h.2.2.2.2.2.1 && (match rk0 with
        | none => true
        | some r => rv_lx N.2.1 σ r h.2.2.2.2.2.2)))
      | none => false
    | none => false
  | none => false
def rv_pick (ce sl : Nat) (N : rv_N) (CT : List (Nat × rv_K)) : Option rv_N := match CT with
  | [] => none
  | k :: r => bif Nat.beq k.1 N.1 then (match rv_call k.2 ce sl N.1 N.2.1 N.2.2.1 N.2.2.2.1 N.2.2.2.2.1 N.2.2.2.2.2.1 N.2.2.2.2.2.2 with
    | some S => some S
    | none => rv_pick ce sl N r) else rv_pick ce sl N r
theorem rv_pick_ok {ce sl : Nat} {N S : rv_N} : ∀ {CT : List (Nat × rv_K)}, rv_pick ce sl N CT = some S → ∃ k ∈ CT, k.1 = N.1 ∧ rv_call k.2 ce sl N.1 N.2.1 N.2.2.1 N.2.2.2.1 N.2.2.2.2.1 N.2.2.2.2.2.1 N.2.2.2.2.2.2 = some S
  | [], h => by cases h
  | k :: r, h => by
    unfold rv_pick at h
    cases h0 : Nat.beq k.1 N.1 with
    | false =>
      simp only [h0, cond_false] at h
      obtain ⟨k', h1, h2⟩ := rv_pick_ok h
      exact ⟨k', List.mem_cons_of_mem _ h1, h2⟩
    | true =>
      simp only [h0, cond_true] at h
      split at h
      · rename_i S' hS
        have h := Option.some.inj h
        subst h
        exact ⟨k, List.mem_cons_self, Nat.eq_of_beq_eq_true h0, hS⟩
      · obtain ⟨k', h1, h2⟩ := rv_pick_ok h
        exact ⟨k', List.mem_cons_of_mem _ h1, h2⟩
def rv_nx (HD : List (Nat × rv_Hd)) (K : rv_K) (rk0 : Option (List (Nat × Int × Nat))) (ih : rv_N → Bool) (S : rv_N) : Bool := match rv_fnd HD S.1 with
  | some h => rv_arr K.1.length rk0 h.2 S
  | none => ih S
def rv_body (T : rv_T) (P : rv_P) (pr : List (Nat × Instr × Nat)) (CT : List (Nat × rv_K)) (HD : List (Nat × rv_Hd)) (K : rv_K) (rt : Nat) (rk0 : Option (List (Nat × Int × Nat))) (ih : rv_N → Bool) (N : rv_N) : Bool := match rv_fnd pr N.1 with
  | some q => rv_ln q.2.1 q.2.2 && ((Nat.beq q.2.2 1 && rv_end K rt q.2.1 N.2.1 N.2.2.2.1 N.2.2.2.2.1 N.2.2.2.2.2.1 N.2.2.2.2.2.2) || (match rv_pick P.2.2.2.2.1 P.2.2.2.2.2.1 N CT with
    | some S => rv_nx HD K rk0 ih S
    | none => match rv_step T P q.2.1 N.1 N.2.1 N.2.2.1 N.2.2.2.1 N.2.2.2.2.1 N.2.2.2.2.2.1 N.2.2.2.2.2.2 with
      | some [S] => rv_nx HD K rk0 ih S
      | some Ns => Ns.all (rv_nx HD K rk0 ih)
      | none => false))
  | none => false
noncomputable def rv_seg (T : rv_T) (P : rv_P) (pr : List (Nat × Instr × Nat)) (CT : List (Nat × rv_K)) (HD : List (Nat × rv_Hd)) (K : rv_K) (rt : Nat) (rk0 : Option (List (Nat × Int × Nat))) (f : Nat) : rv_N → Bool := Nat.rec (fun _ => false) (fun _ ih N => rv_body T P pr CT HD K rt rk0 ih N) f
def rv_rf (g : rv_G) (rk0 : Option (List (Nat × Int × Nat))) : List (Nat × Int) := match rk0 with
  | none => []
  | some r => (r.filter (fun z => Nat.beq z.1 1 || Nat.beq z.1 2)).map (fun z => (z.2.2, g.1 z.2.2))
section
variable {p : Program} {l : Launch} {e : Env} {R : Room} {s : State} {m : MethodId} {args : Array Value} {below : List Frame} {meth : Method} {c : Code} {D : va_G} {cl : List vw_C} {A : Nat → Prop} {cy : Nat → ClassId} {nL : Nat}
variable {cc : ByteArray} {own : String} {Ts : List Jvm.Cond} {K : rv_K} {g0 gr : rv_G} {ret : Option FieldType} {T : rv_T} {P : rv_P} {pr : List (Nat × Instr × Nat)} {CT : List (Nat × rv_K)} {HD : List (Nat × rv_Hd)} {rk0 : Option (List (Nat × Int × Nat))}
/-- that a head's state leads to the end, if its rank is below the one held -/
def rv_HOk (p : Program) (l : Launch) (e : Env) (R : Room) (s : State) (m : MethodId) (args : Array Value) (below : List Frame) (meth : Method) (c : Code) (Q : State → Prop) (D : va_G) (cl : List vw_C) (A : Nat → Prop) (cy : Nat → ClassId) (nL : Nat) (ho : rv_Ho) (lim : Option (List Nat)) (q : Nat × rv_Hd) : Prop :=
  ∀ (g : rv_G) (ls : Array Slot) (H : Heap) (locs : List Loc), rv_R D cl A s.heap cy nL ho g (rv_env 0 q.2.1) q.2.2.1 q.2.2.2.1 q.2.2.2.2.1 ls H locs → (∀ v, lim = some v → rv_ll (q.2.2.2.2.2.2.2.map (rv_rk g)) v) → W p l e R s m args below meth c H locs q.2.2.2.2.2.1 q.2.2.2.2.2.2.1 Q (F0 m q.1 ls (q.2.2.2.1.map (rv_v g)))
def rv_wfH (pn N0 : Nat) (h : rv_Hd) : Bool := h.2.1.all (fun q => rv_okb h.1.length h.2.2.2.1.length q.2) && (h.2.2.1.all (rv_okb h.1.length h.2.2.2.1.length) && (h.2.2.2.1.all (rv_okcb h.1.length h.2.2.2.1.length) && (Nat.ble pn h.1.length && (Nat.ble N0 h.2.2.2.1.length && h.2.2.2.2.2.2.all (fun z => Nat.ble (z.2.2 + 1) h.1.length)))))
theorem rv_arr_ok {Q : State → Prop} {h : Nat × rv_Hd} {N : rv_N} (hwf : rv_wfH K.1.length K.2.2.1.length h.2 = true) (hH : rv_HOk p l e R s m args below meth c Q D cl A cy nL (rv_ho g0 K) (rk0.map (fun r => r.map (rv_rk gr))) h) (hpc : h.1 = N.1) (ha : rv_arr K.1.length rk0 h.2 N = true) : rv_OkN p l e R s m args below meth c Q D cl A cy nL ((rv_ho g0 K).1 ++ rv_rf gr rk0, (rv_ho g0 K).2) N := by
  intro g ls H locs RR
  obtain ⟨he, hx, ⟨w1, w2, w3, w4⟩, hh, hl, hP, hD, hS⟩ := RR
  unfold rv_arr at ha
  split at ha
  · rename_i σ1 h1
    split at ha
    · rename_i σ2 h2
      split at ha
      · rename_i σ h3
        rw [Bool.and_eq_true, Bool.and_eq_true, Bool.and_eq_true, Nat.ble_eq, Nat.ble_eq] at ha
        obtain ⟨k1, k2, k3, k4⟩ := ha
        obtain ⟨⟨τ1, e1⟩, q1⟩ := rv_mL_ok he h1
        obtain ⟨⟨τ2, e2⟩, q2⟩ := rv_mV_ok he h2
        obtain ⟨⟨τ3, e3⟩, lX, q3, q4⟩ := rv_mX_w0 (cy := cy) he h3 hx
        obtain ⟨lσ, q5⟩ := rv_mE_ok he k1
        unfold rv_wfH at hwf
        rw [Bool.and_eq_true, Bool.and_eq_true, Bool.and_eq_true, Bool.and_eq_true, Bool.and_eq_true, Nat.ble_eq, Nat.ble_eq] at hwf
        obtain ⟨v1, v2, v3, v4, v5, v6⟩ := hwf
        have eσ : σ = List.range K.1.length ++ (τ1 ++ τ2 ++ τ3) := by rw [e3, e2, e1]; simp only [List.append_assoc]
        have hlen : (rv_env 0 h.2.1).length = h.2.1.length := rv_env_len _ _
        have hlv : lv_has ls nL (rv_lv (rv_gs g σ) h.2.2.1) := by
          refine ⟨hl.1, hl.2.1, fun q hq => ?_⟩
          obtain ⟨z, hz, rfl⟩ := List.mem_map.mp hq
          obtain ⟨s1, r1, r2⟩ := q1 (τ2 ++ τ3) z hz
          rw [← List.append_assoc, ← e2, ← e3] at r2
          show ls[z.1]? = some (.val (rv_v (rv_gs g σ) z.2))
          rw [r2]
          exact rv_lk_at r1 hl
        have hst : h.2.2.2.1.map (rv_v (rv_gs g σ)) = N.2.2.2.1.map (rv_v g) := by
          have := q2 τ3
          rw [← e3] at this
          exact this
        have RH : rv_R D cl A s.heap cy nL (rv_ho g0 K) (rv_gs g σ) (rv_env 0 h.2.1) h.2.2.1 h.2.2.2.1 h.2.2.2.2.1 ls H locs := by
          refine ⟨fun i ee hi => ?_, q4, ⟨fun ee hee => ?_, ?_, ?_, ?_⟩, ⟨fun q hq => ?_, fun k a hk => ?_⟩, hlv, by rw [q3]; exact hP, by rw [q3]; exact hD, hS⟩
          · rw [rv_env_at] at hi
            cases hb : h.2.1[i]? with
            | none => rw [hb] at hi; cases hi
            | some b =>
              rw [hb] at hi
              have hi := Option.some.inj hi
              subst hi
              obtain ⟨s1, r1, r2, r3, r4⟩ := q5 i b hb
              rw [rv_gs_at r1]
              refine ⟨r3, r4, ?_⟩
              show g.1 s1 = (rv_gs g σ).1 (0 + i) + 0
              rw [Nat.zero_add, rv_gs_at r1]
              omega
          · obtain ⟨i, hi⟩ := List.getElem?_of_mem hee
            rw [rv_env_at] at hi
            cases hb : h.2.1[i]? with
            | none => rw [hb] at hi; cases hi
            | some b =>
              rw [hb] at hi
              have hi := Option.some.inj hi
              subst hi
              have := (List.getElem?_eq_some_iff.mp hb).1
              show 0 + i < _
              rw [hlen]
              omega
          · rw [hlen]; exact fun q hq => rv_okb_ok (List.all_eq_true.mp v1 q hq)
          · rw [hlen]; exact fun q hq => rv_okb_ok (List.all_eq_true.mp v2 q hq)
          · rw [hlen]; exact fun q hq => rv_okcb_ok (List.all_eq_true.mp v3 q hq)
          · obtain ⟨i, hi, rfl⟩ := List.mem_map.mp hq
            have hi := List.mem_range.mp hi
            refine ⟨by rw [hlen]; show i < _; omega, ?_⟩
            show (rv_gs g σ).1 i = g0.1 i
            rw [rv_gs_at (s := i) (by rw [eσ]; exact rv_range_at hi _)]
            exact (hh.1 (i, g0.1 i) (List.mem_append_left _ hq)).2
          · have := hh.2 k a hk
            exact ⟨by rw [lX]; exact this.1, this.2⟩
        have hlim : ∀ v, rk0.map (fun r => r.map (rv_rk gr)) = some v → rv_ll (h.2.2.2.2.2.2.2.map (rv_rk (rv_gs g σ))) v := by
          intro v hv
          cases hr : rk0 with
          | none => rw [hr] at hv; cases hv
          | some r =>
            rw [hr] at hv k4 hh
            have hv := Option.some.inj hv
            subst hv
            refine rv_lx_ok he (fun o ho h12 => ?_) k4
            have hm : (o.2.2, gr.1 o.2.2) ∈ rv_rf gr (some r) := List.mem_map.mpr ⟨o, List.mem_filter.mpr ⟨ho, by rcases h12 with z | z <;> rw [z] <;> rfl⟩, rfl⟩
            exact (hh.1 _ (List.mem_append_right _ hm)).2
        have h9 := hH (rv_gs g σ) ls H locs RH hlim
        rw [hst, hpc] at h9
        exact W.widen k2 k3 h9
      · cases ha
    · cases ha
  · cases ha
theorem rv_seg_ok (Cx : rv_Cx p s m args c cc own nL Ts D cl cy A) (hT : rv_TOk own Ts cl T) (hP : rv_POk R meth nL P) (hr : meth.sig.returnType = ret) (hlocks : meth.locks = false) (hpr : ∀ q ∈ pr, decode cc q.1 = .ok (q.2.1, q.2.2))
    (hCT : ∀ q ∈ CT, rv_wfK q.2 = true ∧ rv_CallOk p l e R s m args below meth c (MQ below (rv_Qc D cl cy g0 K A) args s K.2.2.2.2.2.2.1 K.2.2.2.2.2.2.2 A) D cl A cy nL q.1 q.2)
    (hHD : ∀ q ∈ HD, rv_wfH K.1.length K.2.2.1.length q.2 = true ∧ rv_HOk p l e R s m args below meth c (MQ below (rv_Qc D cl cy g0 K A) args s K.2.2.2.2.2.2.1 K.2.2.2.2.2.2.2 A) D cl A cy nL (rv_ho g0 K) (rk0.map (fun r => r.map (rv_rk gr))) q) :
    ∀ (f : Nat) (N : rv_N), rv_seg T P pr CT HD K (rv_rt ret) rk0 f N = true → rv_OkN p l e R s m args below meth c (MQ below (rv_Qc D cl cy g0 K A) args s K.2.2.2.2.2.2.1 K.2.2.2.2.2.2.2 A) D cl A cy nL ((rv_ho g0 K).1 ++ rv_rf gr rk0, (rv_ho g0 K).2) N
  | 0, N, h => by cases h
  | f + 1, N, h => by
    have ih := rv_seg_ok Cx hT hP hr hlocks hpr hCT hHD f
    have nxt : ∀ S : rv_N, rv_nx HD K rk0 (rv_seg T P pr CT HD K (rv_rt ret) rk0 f) S = true → rv_OkN p l e R s m args below meth c (MQ below (rv_Qc D cl cy g0 K A) args s K.2.2.2.2.2.2.1 K.2.2.2.2.2.2.2 A) D cl A cy nL ((rv_ho g0 K).1 ++ rv_rf gr rk0, (rv_ho g0 K).2) S := by
      intro S hS
      unfold rv_nx at hS
      split at hS
      · rename_i hd hf
        obtain ⟨f1, f2⟩ := rv_fnd_ok hf
        obtain ⟨g1, g2⟩ := hHD hd f1
        exact rv_arr_ok g1 g2 f2 hS
      · exact ih S hS
    have h : rv_body T P pr CT HD K (rv_rt ret) rk0 (rv_seg T P pr CT HD K (rv_rt ret) rk0 f) N = true := h
    unfold rv_body at h
    split at h
    · rename_i q hq
      obtain ⟨f1, f2⟩ := rv_fnd_ok hq
      rw [Bool.and_eq_true, Bool.or_eq_true, Bool.and_eq_true] at h
      obtain ⟨h1, h2⟩ := h
      have hd := hpr q f1
      rw [f2] at hd
      rcases h2 with ⟨h2, h3⟩ | h2
      · rw [Nat.eq_of_beq_eq_true h2] at hd
        exact rv_end_ok Cx hr hlocks (fun z hz => List.mem_append_left _ hz) rfl hd h3
      · split at h2
        · rename_i S hS
          obtain ⟨k, c1, c2, c5⟩ := rv_pick_ok hS
          obtain ⟨c3, c4⟩ := hCT k c1
          rw [c2] at c4
          have P4 := hP.2.2.2.1
          have P5 := hP.2.2.2.2.1
          rw [← P4, ← P5] at c5
          exact rv_call_ok c3 c4 c5 (nxt S h2)
        · split at h2
          · rename_i S hNs
            exact rv_step_ok Cx hT hP hd h1 hNs (fun z hz => by rw [List.mem_singleton.mp hz]; exact nxt S h2)
          · rename_i Ns hNs
            exact rv_step_ok Cx hT hP hd h1 hNs (fun S hS => nxt S (List.all_eq_true.mp h2 S hS))
          · cases h2
    · cases h
/-- all heads: by their ranks -/
theorem rv_heads_ok (Cx : rv_Cx p s m args c cc own nL Ts D cl cy A) (hT : rv_TOk own Ts cl T) (hP : rv_POk R meth nL P) (hr : meth.sig.returnType = ret) (hlocks : meth.locks = false) (hpr : ∀ q ∈ pr, decode cc q.1 = .ok (q.2.1, q.2.2))
    (hCT : ∀ q ∈ CT, rv_wfK q.2 = true ∧ rv_CallOk p l e R s m args below meth c (MQ below (rv_Qc D cl cy g0 K A) args s K.2.2.2.2.2.2.1 K.2.2.2.2.2.2.2 A) D cl A cy nL q.1 q.2) {fu : Nat}
    (hHD : HD.all (fun q => rv_wfH K.1.length K.2.2.1.length q.2 && rv_seg T P pr CT HD K (rv_rt ret) (some q.2.2.2.2.2.2.2) fu (q.1, rv_env 0 q.2.1, q.2.2.1, q.2.2.2.1, q.2.2.2.2.1, q.2.2.2.2.2.1, q.2.2.2.2.2.2.1)) = true) :
    ∀ q ∈ HD, rv_HOk p l e R s m args below meth c (MQ below (rv_Qc D cl cy g0 K A) args s K.2.2.2.2.2.2.1 K.2.2.2.2.2.2.2 A) D cl A cy nL (rv_ho g0 K) none q := by
  have main : ∀ (n : Nat) (v : List Nat), Acc rv_ll v → v.length = n → ∀ q ∈ HD, ∀ (g : rv_G) (ls : Array Slot) (H : Heap) (locs : List Loc), rv_R D cl A s.heap cy nL (rv_ho g0 K) g (rv_env 0 q.2.1) q.2.2.1 q.2.2.2.1 q.2.2.2.2.1 ls H locs → q.2.2.2.2.2.2.2.map (rv_rk g) = v → W p l e R s m args below meth c H locs q.2.2.2.2.2.1 q.2.2.2.2.2.2.1 (MQ below (rv_Qc D cl cy g0 K A) args s K.2.2.2.2.2.2.1 K.2.2.2.2.2.2.2 A) (F0 m q.1 ls (q.2.2.2.1.map (rv_v g))) := by
    intro n v hacc
    induction hacc with
    | intro v _ ih =>
      intro hlen q hq g ls H locs RR hv
      have hq1 := List.all_eq_true.mp hHD q hq
      rw [Bool.and_eq_true] at hq1
      have hwf := hq1.1
      unfold rv_wfH at hwf
      rw [Bool.and_eq_true, Bool.and_eq_true, Bool.and_eq_true, Bool.and_eq_true, Bool.and_eq_true] at hwf
      have hids := hwf.2.2.2.2.2
      have hl2 : ∀ (x y : List Nat), rv_ll x y → x.length = y.length := by
        intro x
        induction x with
        | nil => intro y hy; cases y <;> cases hy
        | cons c cs ihc =>
          intro y hy
          cases y with
          | nil => cases hy
          | cons d ds =>
            rcases hy with ⟨-, z⟩ | ⟨-, z⟩
            · simp [z]
            · simp [ihc ds z]
      have RR2 : rv_R D cl A s.heap cy nL ((rv_ho g0 K).1 ++ rv_rf g (some q.2.2.2.2.2.2.2), (rv_ho g0 K).2) g (rv_env 0 q.2.1) q.2.2.1 q.2.2.2.1 q.2.2.2.2.1 ls H locs := by
        obtain ⟨a1, a2, a3, a4, a5⟩ := RR
        refine ⟨a1, a2, a3, ⟨fun z hz => ?_, a4.2⟩, a5⟩
        rcases List.mem_append.mp hz with h | h
        · exact a4.1 z h
        · obtain ⟨o, ho, rfl⟩ := List.mem_map.mp h
          have := List.all_eq_true.mp hids o (List.mem_filter.mp ho).1
          rw [Nat.ble_eq] at this
          exact ⟨by rw [rv_env_len]; show o.2.2 < _; omega, rfl⟩
      refine rv_seg_ok (gr := g) (rk0 := some q.2.2.2.2.2.2.2) Cx hT hP hr hlocks hpr hCT (fun z hz => ?_) fu _ hq1.2 g ls H locs RR2
      have hz1 := List.all_eq_true.mp hHD z hz
      rw [Bool.and_eq_true] at hz1
      refine ⟨hz1.1, fun g' ls' H' locs' R' hlim => ?_⟩
      have h7 : rv_ll (z.2.2.2.2.2.2.2.map (rv_rk g')) (q.2.2.2.2.2.2.2.map (rv_rk g)) := hlim _ rfl
      rw [hv] at h7
      exact ih _ h7 (by rw [hl2 _ _ h7]; exact hlen) z hz g' ls' H' locs' R' rfl
  intro q hq g ls H locs RR _
  exact main _ _ (rv_ll_acc _ _ rfl) rfl q hq g ls H locs RR rfl
end
