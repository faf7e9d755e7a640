/-! stretches between loop heads, ranks, a method -/
abbrev rv_Rk := Nat × Int × Nat
abbrev rv_Hd := List rv_E × List (Nat × rv_V) × List rv_V × List rv_C × Nat × Nat × List rv_Rk
/-- ranks: 0 a constant, 1 constant - id, 2 id - constant, else a measure of an id's contents -/
def rv_rk (g : rv_G) (r : rv_Rk) : Nat := match r.1 with
  | 0 => r.2.1.toNat
  | 1 => (r.2.1 - g.1 r.2.2).toNat
  | 2 => (g.1 r.2.2 - r.2.1).toNat
  | _ => rv_μ (bif rv_iz r.2.1 then 0 else 1) (g.2.2.1 r.2.2)
def rv_ll (v w : List Nat) : Prop := match v, w with
  | a :: as, b :: bs => (a < b ∧ as.length = bs.length) ∨ (a = b ∧ rv_ll as bs)
  | _, _ => False
theorem rv_ll_acc : ∀ (n : Nat) (v : List Nat), v.length = n → Acc rv_ll v
  | 0, v, h => by
    have : v = [] := List.length_eq_zero_iff.mp h
    subst this
    exact ⟨_, fun w hw => by cases w <;> cases hw⟩
  | n + 1, v, h => by
    have key : ∀ (a : Nat), (∀ b, b < a → ∀ bs : List Nat, bs.length = n → Acc rv_ll (b :: bs)) → ∀ as : List Nat, as.length = n → Acc rv_ll (a :: as) := by
      intro a ih as has
      have hacc := rv_ll_acc n as has
      revert has
      induction hacc with
      | intro as _ ih2 =>
        intro has
        refine ⟨_, fun w hw => ?_⟩
        cases w with
        | nil => cases hw
        | cons b bs =>
          rcases hw with ⟨h1, h2⟩ | ⟨h1, h2⟩
          · exact ih b h1 bs (by omega)
          · subst h1
            have hl : ∀ (x y : List Nat), rv_ll x y → x.length = y.length := by
              intro x
              induction x with
              | nil => intro y hy; cases y <;> cases hy
              | cons c cs ihc =>
                intro y hy
                cases y with
                | nil => cases hy
                | cons d ds =>
                  rcases hy with ⟨-, z⟩ | ⟨-, z⟩
                  · simp [z]
                  · simp [ihc ds z]
            exact ih2 bs h2 (by rw [hl bs as h2]; exact has)
    cases v with
    | nil => cases h
    | cons a as =>
      have has : as.length = n := by simpa using h
      have all : ∀ (a : Nat), ∀ as : List Nat, as.length = n → Acc rv_ll (a :: as) := fun a => Nat.strongRecOn a (fun a ih => key a ih)
      exact all a as has
def rv_lbO (E : List rv_E) (o : rv_Rk) : Int := match o.1 with
  | 0 => o.2.1
  | 1 => (match E[o.2.2]? with
    | some e => o.2.1 - e.2.1
    | none => 0)
  | 2 => (match E[o.2.2]? with
    | some e => e.1 - o.2.1
    | none => 0)
  | _ => 0
def rv_ubN (E : List rv_E) (σ : List Nat) (n : rv_Rk) : Option Int := match n.1 with
  | 0 => some n.2.1
  | 1 => (match σ[n.2.2]? with
    | some s => (match E[s]? with
      | some e => some (n.2.1 - e.1)
      | none => none)
    | none => none)
  | 2 => (match σ[n.2.2]? with
    | some s => (match E[s]? with
      | some e => some (e.2.1 - n.2.1)
      | none => none)
    | none => none)
  | _ => none
def rv_ieq (a b : Int) : Bool := rv_le a b && rv_le b a
/-- a component that falls -/
def rv_ls (RL : List rv_Rl) (E : List rv_E) (σ : List Nat) (o n : rv_Rk) : Bool := (match rv_ubN E σ n with
    | some u => rv_le (u + 1) (rv_lbO E o) && rv_le 1 (rv_lbO E o)
    | none => false) || (rv_ieq o.2.1 n.2.1 && (match σ[n.2.2]? with
    | some s => (match o.1, n.1 with
      | 1, 1 => rv_bd1 E s rv_lo64 o.2.1 && rv_der RL E (rv_fl E) 3 (1, [o.2.2, s])
      | 2, 2 => rv_bd1 E s o.2.1 rv_hi64 && rv_der RL E (rv_fl E) 3 (1, [s, o.2.2])
      | 4, 4 => rv_der RL E (rv_fl E) 3 ((bif rv_iz o.2.1 then 30 else 31), [s, o.2.2])
      | _, _ => false)
    | none => false))
/-- one that stays -/
def rv_lq (E : List rv_E) (σ : List Nat) (o n : rv_Rk) : Bool := rv_ieq o.2.1 n.2.1 && (match o.1, n.1 with
    | 0, 0 => true
    | 1, 1 => (match σ[n.2.2]? with
      | some s => rv_of1 E s o.2.2 0
      | none => false)
    | 2, 2 => (match σ[n.2.2]? with
      | some s => rv_of1 E s o.2.2 0
      | none => false)
    | 4, 4 => (match σ[n.2.2]? with
      | some s => Nat.beq s o.2.2
      | none => false)
    | _, _ => false)
def rv_lx (RL : List rv_Rl) (E : List rv_E) (σ : List Nat) (os ns : List rv_Rk) : Bool := match os, ns with
  | o :: os, n :: ns => bif Nat.beq ns.length os.length && rv_ls RL E σ o n then true else rv_lq E σ o n && rv_lx RL E σ os ns
  | _, _ => false
theorem rv_ieq_ok {a b : Int} (h : rv_ieq a b = true) : a = b := by
  unfold rv_ieq at h
  rw [Bool.and_eq_true, rv_le_iff, rv_le_iff] at h
  omega
theorem rv_lbO_ok {g gr : rv_G} {E : List rv_E} (he : rv_e g E) {o : rv_Rk} (hg : 1 ≤ o.1 → rv_z g o.2.2 = rv_z gr o.2.2) : rv_lbO E o ≤ (rv_rk gr o : Int) ∨ rv_lbO E o ≤ 0 := by
  obtain ⟨k, c, i⟩ := o
  unfold rv_lbO rv_rk
  match k, hg with
  | 0, _ => exact Or.inl (by show c ≤ (c.toNat : Int); omega)
  | 1, hg =>
    have e1 : g.1 i = gr.1 i := congrArg Prod.fst (hg (by show 1 ≤ 1; omega))
    show (match E[i]? with
      | some e => c - e.2.1
      | none => 0) ≤ (((c - gr.1 i).toNat : Nat) : Int) ∨ (match E[i]? with
      | some e => c - e.2.1
      | none => 0) ≤ 0
    cases hE : E[i]? with
    | none => exact Or.inr (Int.le_refl _)
    | some ee =>
      obtain ⟨q1, q2, -⟩ := he i ee hE
      exact Or.inl (by show c - ee.2.1 ≤ _; rw [← e1]; omega)
  | 2, hg =>
    have e1 : g.1 i = gr.1 i := congrArg Prod.fst (hg (by show 1 ≤ 2; omega))
    show (match E[i]? with
      | some e => e.1 - c
      | none => 0) ≤ (((gr.1 i - c).toNat : Nat) : Int) ∨ (match E[i]? with
      | some e => e.1 - c
      | none => 0) ≤ 0
    cases hE : E[i]? with
    | none => exact Or.inr (Int.le_refl _)
    | some ee =>
      obtain ⟨q1, q2, -⟩ := he i ee hE
      exact Or.inl (by show ee.1 - c ≤ _; rw [← e1]; omega)
  | k + 3, _ => exact Or.inr (Int.le_refl _)
theorem rv_ubN_ok {g : rv_G} {E : List rv_E} (he : rv_e g E) {σ : List Nat} {n : rv_Rk} {u : Int} (h : rv_ubN E σ n = some u) : (rv_rk (rv_gs g σ) n : Int) ≤ u ∨ (rv_rk (rv_gs g σ) n : Int) = 0 := by
  obtain ⟨k, c, i⟩ := n
  unfold rv_ubN at h
  unfold rv_rk
  match k, h with
  | 0, h =>
    have h : some c = some u := h
    have h := Option.some.inj h
    subst h
    show ((c.toNat : Nat) : Int) ≤ c ∨ ((c.toNat : Nat) : Int) = 0
    omega
  | 1, h =>
    have h : (match σ[i]? with
      | some s => (match E[s]? with
        | some e => some (c - e.1)
        | none => none)
      | none => none) = some u := h
    show (((c - (rv_gs g σ).1 i).toNat : Nat) : Int) ≤ u ∨ (((c - (rv_gs g σ).1 i).toNat : Nat) : Int) = 0
    cases hs : σ[i]? with
    | none => rw [hs] at h; cases h
    | some s =>
      rw [hs] at h
      dsimp only at h
      cases hE : E[s]? with
      | none => rw [hE] at h; cases h
      | some ee =>
        rw [hE] at h
        have h := Option.some.inj h
        subst h
        obtain ⟨q1, q2, -⟩ := he s ee hE
        rw [rv_gs_at hs]
        omega
  | 2, h =>
    have h : (match σ[i]? with
      | some s => (match E[s]? with
        | some e => some (e.2.1 - c)
        | none => none)
      | none => none) = some u := h
    show ((((rv_gs g σ).1 i - c).toNat : Nat) : Int) ≤ u ∨ ((((rv_gs g σ).1 i - c).toNat : Nat) : Int) = 0
    cases hs : σ[i]? with
    | none => rw [hs] at h; cases h
    | some s =>
      rw [hs] at h
      dsimp only at h
      cases hE : E[s]? with
      | none => rw [hE] at h; cases h
      | some ee =>
        rw [hE] at h
        have h := Option.some.inj h
        subst h
        obtain ⟨q1, q2, -⟩ := he s ee hE
        rw [rv_gs_at hs]
        omega
  | k + 3, h => cases h
theorem rv_ls_ok {g gr : rv_G} {RL : List rv_Rl} (hRL : ∀ r ∈ RL, rv_RlOk r) {E : List rv_E} (he : rv_e g E) {σ : List Nat} {o n : rv_Rk} (hg : 1 ≤ o.1 → rv_z g o.2.2 = rv_z gr o.2.2) (h : rv_ls RL E σ o n = true) : rv_rk (rv_gs g σ) n < rv_rk gr o := by
  unfold rv_ls at h
  rw [Bool.or_eq_true] at h
  rcases h with h | h
  · split at h
    · rename_i u hu
      rw [Bool.and_eq_true, rv_le_iff, rv_le_iff] at h
      have h1 := rv_lbO_ok he hg
      have h2 := rv_ubN_ok he hu
      omega
    · cases h
  · rw [Bool.and_eq_true] at h
    obtain ⟨h0, h⟩ := h
    have h0 := rv_ieq_ok h0
    split at h
    · rename_i s hs
      obtain ⟨k, c, i⟩ := o
      obtain ⟨k', c', i'⟩ := n
      have h0 : c = c' := h0
      subst h0
      split at h
      · rename_i z1 z2
        have z1 : k = 1 := z1
        have z2 : k' = 1 := z2
        subst z1; subst z2
        rw [Bool.and_eq_true] at h
        have h2 := rv_bd1_ok he h.1
        have h3 : g.1 i < g.1 s := rv_der_ok he hRL (fun f hf => rv_fl_ok he hf) 3 _ h.2
        have e1 : g.1 i = gr.1 i := congrArg Prod.fst (hg (by show 1 ≤ 1; omega))
        show (c - (rv_gs g σ).1 i').toNat < (c - gr.1 i).toNat
        rw [rv_gs_at hs, ← e1]
        have h2 : g.1 s ≤ c := h2.2
        omega
      · rename_i z1 z2
        have z1 : k = 2 := z1
        have z2 : k' = 2 := z2
        subst z1; subst z2
        rw [Bool.and_eq_true] at h
        have h2 := rv_bd1_ok he h.1
        have h3 : g.1 s < g.1 i := rv_der_ok he hRL (fun f hf => rv_fl_ok he hf) 3 _ h.2
        have e1 : g.1 i = gr.1 i := congrArg Prod.fst (hg (by show 1 ≤ 2; omega))
        show ((rv_gs g σ).1 i' - c).toNat < (gr.1 i - c).toNat
        rw [rv_gs_at hs, ← e1]
        have h2 : c ≤ g.1 s := h2.1
        omega
      · rename_i z1 z2
        have z1 : k = 4 := z1
        have z2 : k' = 4 := z2
        subst z1; subst z2
        have e1 : g.2.2.1 i = gr.2.2.1 i := congrArg Prod.snd (hg (by show 1 ≤ 4; omega))
        have e2 : (rv_gs g σ).2.2.1 i' = g.2.2.1 s := congrArg Prod.snd (rv_gs_z hs)
        have h3 := rv_der_ok he hRL (fun f hf => rv_fl_ok he hf) 3 _ h
        show rv_μ (bif rv_iz c then 0 else 1) ((rv_gs g σ).2.2.1 i') < rv_μ (bif rv_iz c then 0 else 1) (gr.2.2.1 i)
        rw [e2, ← e1]
        dsimp only at h3
        cases hz : rv_iz c with
        | true => rw [hz] at h3; exact h3
        | false => rw [hz] at h3; exact h3
      · cases h
    · cases h
theorem rv_lq_ok {g gr : rv_G} {E : List rv_E} (he : rv_e g E) {σ : List Nat} {o n : rv_Rk} (hg : 1 ≤ o.1 → rv_z g o.2.2 = rv_z gr o.2.2) (h : rv_lq E σ o n = true) : rv_rk (rv_gs g σ) n = rv_rk gr o := by
  unfold rv_lq at h
  rw [Bool.and_eq_true] at h
  obtain ⟨h0, h⟩ := h
  have h0 := rv_ieq_ok h0
  obtain ⟨k, c, i⟩ := o
  obtain ⟨k', c', i'⟩ := n
  have h0 : c = c' := h0
  subst h0
  split at h
  · rename_i z1 z2
    have z1 : k = 0 := z1
    have z2 : k' = 0 := z2
    subst z1; subst z2
    rfl
  · rename_i z1 z2
    have z1 : k = 1 := z1
    have z2 : k' = 1 := z2
    subst z1; subst z2
    split at h
    · rename_i s hs
      have e1 : g.1 i = gr.1 i := congrArg Prod.fst (hg (by show 1 ≤ 1; omega))
      have e2 := rv_of1_ok he h
      show (c - (rv_gs g σ).1 i').toNat = (c - gr.1 i).toNat
      rw [rv_gs_at hs, ← e1, e2]
      dsimp only
      rw [Int.add_zero]
    · cases h
  · rename_i z1 z2
    have z1 : k = 2 := z1
    have z2 : k' = 2 := z2
    subst z1; subst z2
    split at h
    · rename_i s hs
      have e1 : g.1 i = gr.1 i := congrArg Prod.fst (hg (by show 1 ≤ 2; omega))
      have e2 := rv_of1_ok he h
      show ((rv_gs g σ).1 i' - c).toNat = (gr.1 i - c).toNat
      rw [rv_gs_at hs, ← e1, e2]
      dsimp only
      rw [Int.add_zero]
    · cases h
  · rename_i z1 z2
    have z1 : k = 4 := z1
    have z2 : k' = 4 := z2
    subst z1; subst z2
    split at h
    · rename_i s hs
      have h := Nat.eq_of_beq_eq_true h
      have h : s = i := h
      subst h
      have e1 : g.2.2.1 s = gr.2.2.1 s := congrArg Prod.snd (hg (by show 1 ≤ 4; omega))
      have e2 : (rv_gs g σ).2.2.1 i' = g.2.2.1 s := congrArg Prod.snd (rv_gs_z hs)
      show rv_μ (bif rv_iz c then 0 else 1) ((rv_gs g σ).2.2.1 i') = rv_μ (bif rv_iz c then 0 else 1) (gr.2.2.1 s)
      rw [e2, ← e1]
    · cases h
  · cases h
theorem rv_lx_ok {g gr : rv_G} {RL : List rv_Rl} (hRL : ∀ r ∈ RL, rv_RlOk r) {E : List rv_E} (he : rv_e g E) {σ : List Nat} : ∀ {os ns : List rv_Rk}, (∀ o ∈ os, 1 ≤ o.1 → rv_z g o.2.2 = rv_z gr o.2.2) → rv_lx RL E σ os ns = true → rv_ll (ns.map (rv_rk (rv_gs g σ))) (os.map (rv_rk gr))
  | [], [], _, h => by cases h
  | [], _ :: _, _, h => by cases h
  | _ :: _, [], _, h => by cases h
  | o :: os, n :: ns, hg, h => by
    have hg1 := hg o List.mem_cons_self
    have hg2 : ∀ o ∈ os, 1 ≤ o.1 → rv_z g o.2.2 = rv_z gr o.2.2 := fun o ho => hg o (List.mem_cons_of_mem _ ho)
    unfold rv_lx at h
    cases hc : (Nat.beq ns.length os.length && rv_ls RL E σ o n) with
    | true =>
      rw [Bool.and_eq_true] at hc
      exact Or.inl ⟨rv_ls_ok hRL he hg1 hc.2, by rw [List.length_map, List.length_map]; exact Nat.eq_of_beq_eq_true hc.1⟩
    | false =>
      simp only [hc, cond_false] at h
      rw [Bool.and_eq_true] at h
      exact Or.inr ⟨rv_lq_ok he hg1 h.1, rv_lx_ok hRL he hg2 h.2⟩
def rv_mL (E : List rv_E) (src : List (Nat × rv_V)) (σ : List Nat) (tl : List (Nat × rv_V)) : Option (List Nat) := match tl with
  | [] => some σ
  | q :: r => match rv_lk src q.1 with
    | some s => match rv_m1 E σ q.2 s with
      | some σ' => rv_mL E src σ' r
      | none => none
    | none => none
theorem rv_mL_ok {g : rv_G} {E : List rv_E} (he : rv_e g E) {src : List (Nat × rv_V)} : ∀ {tl : List (Nat × rv_V)} {σ σ' : List Nat}, rv_mL E src σ tl = some σ' → (∃ τ, σ' = σ ++ τ) ∧ ∀ τ, ∀ q ∈ tl, ∃ s, rv_lk src q.1 = some s ∧ rv_v (rv_gs g (σ' ++ τ)) q.2 = rv_v g s
  | [], σ, σ', h => by
    have h : σ = σ' := Option.some.inj h
    subst h
    exact ⟨⟨[], by simp⟩, fun _ q hq => by cases hq⟩
  | q :: r, σ, σ', h => by
    unfold rv_mL at h
    cases h0 : rv_lk src q.1 with
    | none => rw [h0] at h; cases h
    | some s =>
      rw [h0] at h
      dsimp only at h
      cases h1 : rv_m1 E σ q.2 s with
      | none => rw [h1] at h; cases h
      | some σ1 =>
        rw [h1] at h
        obtain ⟨⟨τ1, e1⟩, q1⟩ := rv_m1_ok he h1
        obtain ⟨⟨τ2, e2⟩, q2⟩ := rv_mL_ok he h
        refine ⟨⟨τ1 ++ τ2, by rw [e2, e1, List.append_assoc]⟩, fun τ z hz => ?_⟩
        rcases List.mem_cons.mp hz with hz | hz
        · refine ⟨s, by rw [hz]; exact h0, ?_⟩
          rw [hz]
          have q3 := q1 (τ2 ++ τ)
          rw [← List.append_assoc, ← e2] at q3
          exact q3
        · exact q2 τ z hz
