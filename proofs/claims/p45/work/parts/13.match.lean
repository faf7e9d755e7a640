/-! a symbolic state as an instance of another: ids of the pattern, in the order in which they first come, are given ids of the state -/
def rv_iz (z : Int) : Bool := match z with
  | .ofNat n => Nat.beq n 0
  | .negSucc _ => false
theorem rv_iz_ok {z : Int} (h : rv_iz z = true) : z = 0 := by
  cases z with
  | ofNat n => have h : n = 0 := Nat.eq_of_beq_eq_true h; subst h; rfl
  | negSucc n => cases h
def rv_can (E : List rv_E) (s : Nat) : Nat := match E[s]? with
  | some e => bif rv_iz e.2.2.2.1 then e.2.2.1 else s
  | none => s
theorem rv_can_ok {g : rv_G} {E : List rv_E} (he : rv_e g E) (s : Nat) : g.1 (rv_can E s) = g.1 s := by
  unfold rv_can
  cases hE : E[s]? with
  | none => rfl
  | some ee =>
    dsimp only
    cases hz : rv_iz ee.2.2.2.1 with
    | false => rfl
    | true =>
      simp only [cond_true]
      have h3 := (he s ee hE).2.2.1
      rw [rv_iz_ok hz] at h3
      omega
def rv_mi (σ : List Nat) (t s : Nat) : Option (List Nat) := bif Nat.beq t σ.length then some (σ ++ [s]) else match σ[t]? with
  | some s' => bif Nat.beq s' s then some σ else none
  | none => none
theorem rv_mi_ok {σ σ' : List Nat} {t s : Nat} (h : rv_mi σ t s = some σ') : (∃ τ, σ' = σ ++ τ) ∧ σ'[t]? = some s := by
  unfold rv_mi at h
  cases h1 : Nat.beq t σ.length with
  | true =>
    simp only [h1, cond_true] at h
    have h := Option.some.inj h
    subst h
    have ht : t = σ.length := Nat.eq_of_beq_eq_true h1
    subst ht
    exact ⟨⟨_, rfl⟩, by rw [List.getElem?_append_right (Nat.le_refl _), Nat.sub_self]; rfl⟩
  | false =>
    simp only [h1, cond_false] at h
    cases h2 : σ[t]? with
    | none => rw [h2] at h; cases h
    | some s' =>
      rw [h2] at h
      dsimp only at h
      cases h3 : Nat.beq s' s with
      | false => simp only [h3, cond_false] at h; cases h
      | true =>
        simp only [h3, cond_true] at h
        have h := Option.some.inj h
        subst h
        rw [← Nat.eq_of_beq_eq_true h3]
        exact ⟨⟨[], by simp⟩, h2⟩
theorem rv_pfx {σ τ : List Nat} {t s : Nat} (h : σ[t]? = some s) : (σ ++ τ)[t]? = some s := by
  rw [List.getElem?_append_left (List.getElem?_eq_some_iff.mp h).1]
  exact h
def rv_m1 (E : List rv_E) (σ : List Nat) (t s : rv_V) : Option (List Nat) := bif Nat.beq t.1 s.1 then (bif Nat.ble t.1 1 then rv_mi σ t.2 (rv_can E s.2) else (bif Nat.beq t.2 s.2 then some σ else none)) else none
def rv_gs (g : rv_G) (σ : List Nat) : rv_G := (fun t => g.1 (σ.getD t 0), g.2.1, fun t => g.2.2.1 (σ.getD t 0), g.2.2.2)
theorem rv_gs_z {g : rv_G} {σ : List Nat} {t s : Nat} (h : σ[t]? = some s) : rv_z (rv_gs g σ) t = rv_z g s := by
  show (g.1 (σ.getD t 0), g.2.2.1 (σ.getD t 0)) = _
  rw [List.getD_eq_getElem?_getD, h]
  rfl
theorem rv_gs_at {g : rv_G} {σ : List Nat} {t s : Nat} (h : σ[t]? = some s) : (rv_gs g σ).1 t = g.1 s := by
  show g.1 (σ.getD t 0) = _
  rw [List.getD_eq_getElem?_getD, h]
  rfl
theorem rv_m1_ok {g : rv_G} {E : List rv_E} (he : rv_e g E) {σ σ' : List Nat} {t s : rv_V} (h : rv_m1 E σ t s = some σ') : (∃ τ, σ' = σ ++ τ) ∧ ∀ τ, rv_v (rv_gs g (σ' ++ τ)) t = rv_v g s := by
  unfold rv_m1 at h
  obtain ⟨tk, ti⟩ := t
  obtain ⟨sk, si⟩ := s
  cases h0 : Nat.beq tk sk with
  | false => simp only [h0, cond_false] at h; cases h
  | true =>
    simp only [h0, cond_true] at h
    have h0 : tk = sk := Nat.eq_of_beq_eq_true h0
    subst h0
    cases h1 : Nat.ble tk 1 with
    | true =>
      simp only [h1, cond_true] at h
      obtain ⟨e1, e2⟩ := rv_mi_ok h
      refine ⟨e1, fun τ => ?_⟩
      have e3 : (rv_gs g (σ' ++ τ)).1 ti = g.1 si := by rw [rv_gs_at (rv_pfx e2), rv_can_ok he]
      rw [Nat.ble_eq] at h1
      match tk, h1 with
      | 0, _ => show Value.int (Int32.ofInt _) = Value.int (Int32.ofInt _); rw [e3]
      | 1, _ => show Value.long (Int64.ofInt _) = Value.long (Int64.ofInt _); rw [e3]
    | false =>
      simp only [h1, cond_false] at h
      cases h3 : Nat.beq ti si with
      | false => simp only [h3, cond_false] at h; cases h
      | true =>
        simp only [h3, cond_true] at h
        have h := Option.some.inj h
        subst h
        have h3 : ti = si := Nat.eq_of_beq_eq_true h3
        subst h3
        refine ⟨⟨[], by simp⟩, fun τ => ?_⟩
        match tk, h1 with
        | 0, h1 => cases h1
        | 1, h1 => cases h1
        | 2, _ => rfl
        | 3, _ => rfl
        | k + 4, _ => rfl
def rv_mV (E : List rv_E) (σ : List Nat) (ts ss : List rv_V) : Option (List Nat) := match ts, ss with
  | [], [] => some σ
  | t :: ts, s :: ss => match rv_m1 E σ t s with
    | some σ' => rv_mV E σ' ts ss
    | none => none
  | _, _ => none
theorem rv_mV_ok {g : rv_G} {E : List rv_E} (he : rv_e g E) : ∀ {ts ss : List rv_V} {σ σ' : List Nat}, rv_mV E σ ts ss = some σ' → (∃ τ, σ' = σ ++ τ) ∧ ∀ τ, ts.map (rv_v (rv_gs g (σ' ++ τ))) = ss.map (rv_v g)
  | [], [], σ, σ', h => by
    have h : σ = σ' := Option.some.inj h
    subst h
    exact ⟨⟨[], by simp⟩, fun _ => rfl⟩
  | [], _ :: _, _, _, h => by cases h
  | _ :: _, [], _, _, h => by cases h
  | t :: ts, s :: ss, σ, σ', h => by
    unfold rv_mV at h
    cases h1 : rv_m1 E σ t s with
    | none => rw [h1] at h; cases h
    | some σ1 =>
      rw [h1] at h
      obtain ⟨⟨τ1, e1⟩, q1⟩ := rv_m1_ok he h1
      obtain ⟨⟨τ2, e2⟩, q2⟩ := rv_mV_ok he h
      refine ⟨⟨τ1 ++ τ2, by rw [e2, e1, List.append_assoc]⟩, fun τ => ?_⟩
      rw [List.map_cons, List.map_cons, q2 τ]
      congr 1
      have q3 := q1 (τ2 ++ τ)
      rw [← List.append_assoc, ← e2] at q3
      exact q3
def rv_mT (E : List rv_E) (src : List (Nat × Nat)) (σ : List Nat) (tt : List (Nat × Nat)) : Option (List Nat) := match tt with
  | [] => some σ
  | q :: r => match rv_tr src q.1 with
    | some s => match rv_mi σ q.2 (rv_can E s) with
      | some σ' => rv_mT E src σ' r
      | none => none
    | none => none
theorem rv_mT_ok {g : rv_G} {E : List rv_E} (he : rv_e g E) {src : List (Nat × Nat)} : ∀ {tt : List (Nat × Nat)} {σ σ' : List Nat}, rv_mT E src σ tt = some σ' → (∃ τ, σ' = σ ++ τ) ∧ ∀ τ, ∀ q ∈ tt, ∃ s, rv_tr src q.1 = some s ∧ (rv_gs g (σ' ++ τ)).1 q.2 = g.1 s
  | [], σ, σ', h => by
    have h : σ = σ' := Option.some.inj h
    subst h
    exact ⟨⟨[], by simp⟩, fun _ q hq => by cases hq⟩
  | q :: r, σ, σ', h => by
    unfold rv_mT at h
    cases h0 : rv_tr src q.1 with
    | none => rw [h0] at h; cases h
    | some s =>
      rw [h0] at h
      dsimp only at h
      cases h1 : rv_mi σ q.2 (rv_can E s) with
      | none => rw [h1] at h; cases h
      | some σ1 =>
        rw [h1] at h
        obtain ⟨⟨τ1, e1⟩, q1⟩ := rv_mi_ok h1
        obtain ⟨⟨τ2, e2⟩, q2⟩ := rv_mT_ok he h
        refine ⟨⟨τ1 ++ τ2, by rw [e2, e1, List.append_assoc]⟩, fun τ z hz => ?_⟩
        rcases List.mem_cons.mp hz with hz | hz
        · refine ⟨s, by rw [hz]; exact h0, ?_⟩
          rw [hz, rv_gs_at (s := rv_can E s) (by rw [e2, List.append_assoc]; exact rv_pfx q1), rv_can_ok he]
        · exact q2 τ z hz
def rv_mD (E : List rv_E) (lo hi : Int) (tt : List (Nat × Nat)) (src : List (Nat × Nat)) : Bool := match src with
  | [] => true
  | q :: r => (match rv_tr tt q.1 with
    | some _ => true
    | none => match E[q.2]? with
      | some e => rv_le lo e.1 && rv_le e.2.1 hi
      | none => false) && rv_mD E lo hi tt r
theorem rv_mD_ok {g : rv_G} {E : List rv_E} (he : rv_e g E) {lo hi : Int} {tt : List (Nat × Nat)} : ∀ {src : List (Nat × Nat)}, rv_mD E lo hi tt src = true → ∀ q ∈ src, rv_tr tt q.1 = none → lo ≤ g.1 q.2 ∧ g.1 q.2 ≤ hi
  | [], _, q, hq, _ => by cases hq
  | z :: r, h, q, hq, hn => by
    unfold rv_mD at h
    rw [Bool.and_eq_true] at h
    rcases List.mem_cons.mp hq with e1 | e1
    · rw [e1] at hn ⊢
      have h1 := h.1
      rw [hn] at h1
      dsimp only at h1
      cases hE : E[z.2]? with
      | none => rw [hE] at h1; cases h1
      | some ee =>
        rw [hE] at h1
        dsimp only at h1
        rw [Bool.and_eq_true, rv_le_iff, rv_le_iff] at h1
        obtain ⟨q1, q2, -⟩ := he z.2 ee hE
        omega
    · exact rv_mD_ok he h.2 q e1 hn
def rv_mC (E : List rv_E) (σ : List Nat) (t s : rv_C) : Option (List Nat) := match t, s with
  | .inl o, .inl o' => bif Nat.beq o.1 o'.1 then rv_mV E σ o.2 o'.2 else none
  | .inr a, .inr b => bif Nat.beq a.1 b.1 && (Nat.beq a.2.1 b.2.1 && (rv_le a.2.2.1 b.2.2.1 && (rv_le b.2.2.2.1 a.2.2.2.1 && rv_mD E a.2.2.1 a.2.2.2.1 a.2.2.2.2.1 b.2.2.2.2.1))) then (match rv_mT E b.2.2.2.2.1 σ a.2.2.2.2.1 with
    | some σ1 => rv_mi σ1 a.2.2.2.2.2 b.2.2.2.2.2
    | none => none) else none
  | _, _ => none
theorem rv_mC_ok {cy : Nat → ClassId} {g : rv_G} {E : List rv_E} (he : rv_e g E) {t s : rv_C} {σ σ' : List Nat} (h : rv_mC E σ t s = some σ') (hs : ∀ b, s = .inr b → rv_a g b) : (∃ τ, σ' = σ ++ τ) ∧ ∀ τ, rv_d cy (rv_gs g (σ' ++ τ)) t = rv_d cy g s ∧ ∀ a, t = .inr a → rv_a (rv_gs g (σ' ++ τ)) a := by
  unfold rv_mC at h
  cases t with
  | inl o =>
    cases s with
    | inr b => cases h
    | inl o' =>
      dsimp only at h
      cases h0 : Nat.beq o.1 o'.1 with
      | false => simp only [h0, cond_false] at h; cases h
      | true =>
        simp only [h0, cond_true] at h
        obtain ⟨e1, e2⟩ := rv_mV_ok he h
        refine ⟨e1, fun τ => ⟨?_, fun a ha => by cases ha⟩⟩
        show Sum.inr (o.1, o.2.map (rv_v (rv_gs g (σ' ++ τ)))) = Sum.inr (o'.1, o'.2.map (rv_v g))
        rw [e2 τ, Nat.eq_of_beq_eq_true h0]
  | inr a =>
    cases s with
    | inl o' => cases h
    | inr b =>
      dsimp only at h
      cases h0 : (Nat.beq a.1 b.1 && (Nat.beq a.2.1 b.2.1 && (rv_le a.2.2.1 b.2.2.1 && (rv_le b.2.2.2.1 a.2.2.2.1 && rv_mD E a.2.2.1 a.2.2.2.1 a.2.2.2.2.1 b.2.2.2.2.1)))) with
      | false => simp only [h0, cond_false] at h; cases h
      | true =>
        simp only [h0, cond_true] at h
        rw [Bool.and_eq_true, Bool.and_eq_true, Bool.and_eq_true, Bool.and_eq_true, rv_le_iff, rv_le_iff] at h0
        obtain ⟨h1, h2, h3, h4, h5⟩ := h0
        have h1 := Nat.eq_of_beq_eq_true h1
        have h2 := Nat.eq_of_beq_eq_true h2
        split at h
        · rename_i σ1 hm
          obtain ⟨⟨τ1, e1⟩, e2⟩ := rv_mT_ok he hm
          obtain ⟨⟨τ2, e3⟩, e4⟩ := rv_mi_ok h
          have hb := hs b rfl
          have hc : ∀ τ, (rv_gs g (σ' ++ τ)).2.2.1 a.2.2.2.2.2 = g.2.2.1 b.2.2.2.2.2 := fun τ => congrArg Prod.snd (rv_gs_z (rv_pfx e4))
          refine ⟨⟨τ1 ++ τ2, by rw [e3, e1, List.append_assoc]⟩, fun τ => ⟨?_, fun a' ha => ?_⟩⟩
          · simp only [rv_d]
            rw [h1, h2, hc τ]
          · have ha := Sum.inr.inj ha
            subst ha
            intro j
            rw [hc τ]
            refine ⟨fun i hi => ?_, fun hn => ?_⟩
            · obtain ⟨s, q1, q2⟩ := e2 (τ2 ++ τ) (j, i) (rv_tr_mem hi)
              rw [← List.append_assoc, ← e3] at q2
              rw [q2]
              exact (hb j).1 s q1
            · cases hj : rv_tr b.2.2.2.2.1 j with
              | none =>
                have := (hb j).2 hj
                omega
              | some s =>
                rw [(hb j).1 s hj]
                exact rv_mD_ok he h5 (j, s) (rv_tr_mem hj) hn
        · cases h
/-- a list's spine, made plain first -/
def rv_fz {α β : Type} (l : List α) (k : List α → β) : β := match l with
  | [] => k []
  | x :: r => rv_fz r (fun r' => k (x :: r'))
theorem rv_fz_eq {α β : Type} : ∀ (l : List α) (k : List α → β), rv_fz l k = k l
  | [], _ => rfl
  | x :: r, k => by
    unfold rv_fz
    rw [rv_fz_eq r]
def rv_mX (E : List rv_E) (σ : List Nat) (ts ss : List rv_C) : Option (List Nat) := match ts, ss with
  | [], [] => some σ
  | t :: ts, s :: ss => match rv_mC E σ t s with
    | some σ' => rv_fz σ' (fun σ2 => rv_mX E σ2 ts ss)
    | none => none
  | _, _ => none
theorem rv_mX_ok {cy : Nat → ClassId} {g : rv_G} {E : List rv_E} (he : rv_e g E) : ∀ {ts ss : List rv_C} {σ σ' : List Nat}, rv_mX E σ ts ss = some σ' → (∀ (k : Nat) (b : rv_Ar), ss[k]? = some (.inr b) → rv_a g b) → (∃ τ, σ' = σ ++ τ) ∧ ts.length = ss.length ∧ ∀ τ, ∀ (k : Nat) (t : rv_C), ts[k]? = some t → ∃ s, ss[k]? = some s ∧ rv_d cy (rv_gs g (σ' ++ τ)) t = rv_d cy g s ∧ ∀ a, t = .inr a → rv_a (rv_gs g (σ' ++ τ)) a
  | [], [], σ, σ', h, hs => by
    have h : σ = σ' := Option.some.inj h
    subst h
    exact ⟨⟨[], by simp⟩, rfl, fun _ k t hk => by cases hk⟩
  | [], _ :: _, _, _, h, _ => by cases h
  | _ :: _, [], _, _, h, _ => by cases h
  | t :: ts, s :: ss, σ, σ', h, hs => by
    unfold rv_mX at h
    cases h1 : rv_mC E σ t s with
    | none => rw [h1] at h; cases h
    | some σ1 =>
      rw [h1] at h
      dsimp only at h
      rw [rv_fz_eq] at h
      obtain ⟨⟨τ1, e1⟩, q1⟩ := rv_mC_ok (cy := cy) he h1 (fun b hb => hs 0 b (by rw [hb]; rfl))
      obtain ⟨⟨τ2, e2⟩, l2, q2⟩ := rv_mX_ok (cy := cy) he h (fun k b hk => hs (k + 1) b hk)
      refine ⟨⟨τ1 ++ τ2, by rw [e2, e1, List.append_assoc]⟩, by simp [l2], fun τ k c hk => ?_⟩
      match k, hk with
      | 0, hk =>
        have hk : t = c := Option.some.inj hk
        subst hk
        have q3 := q1 (τ2 ++ τ)
        rw [← List.append_assoc, ← e2] at q3
        exact ⟨s, rfl, q3⟩
      | k + 1, hk => exact q2 τ k c hk
theorem rv_mX_w {cy : Nat → ClassId} {g : rv_G} {E : List rv_E} (he : rv_e g E) {ts ss : List rv_C} {σ σ' : List Nat} (h : rv_mX E σ ts ss = some σ') (hx : rv_x g ss) : (∃ τ, σ' = σ ++ τ) ∧ ts.length = ss.length ∧ ∀ τ, rv_w cy (rv_gs g (σ' ++ τ)) ts = rv_w cy g ss ∧ rv_x (rv_gs g (σ' ++ τ)) ts := by
  obtain ⟨e1, e2, e3⟩ := rv_mX_ok (cy := cy) he h hx
  refine ⟨e1, e2, fun τ => ⟨?_, fun k a hk => ?_⟩⟩
  · have e4 := e3 τ
    apply List.ext_getElem?
    intro k
    unfold rv_w
    rw [List.getElem?_mapIdx, List.getElem?_mapIdx]
    cases hk : ts[k]? with
    | none =>
      have hl : ts.length ≤ k := List.getElem?_eq_none_iff.mp hk
      rw [List.getElem?_eq_none_iff.mpr (by omega)]
      rfl
    | some t =>
      obtain ⟨s, q1, q2, -⟩ := e4 k t hk
      rw [q1]
      show some (g.2.1 k, rv_d cy (rv_gs g (σ' ++ τ)) t) = some (g.2.1 k, rv_d cy g s)
      rw [q2]
  · obtain ⟨s, q1, -, q3⟩ := e3 τ k _ hk
    exact q3 a rfl
theorem rv_mX_w0 {cy : Nat → ClassId} {g : rv_G} {E : List rv_E} (he : rv_e g E) {ts ss : List rv_C} {σ σ' : List Nat} (h : rv_mX E σ ts ss = some σ') (hx : rv_x g ss) : (∃ τ, σ' = σ ++ τ) ∧ ts.length = ss.length ∧ rv_w cy (rv_gs g σ') ts = rv_w cy g ss ∧ rv_x (rv_gs g σ') ts := by
  obtain ⟨e1, e2, e3⟩ := rv_mX_w (cy := cy) he h hx
  have e4 := e3 []
  rw [List.append_nil] at e4
  exact ⟨e1, e2, e4⟩
/-- ids by σ, all of them -/
def rv_sg (σ : List Nat) (is : List Nat) : Option (List Nat) := match is with
  | [] => some []
  | i :: r => match σ[i]?, rv_sg σ r with
    | some s, some q => some (s :: q)
    | _, _ => none
theorem rv_sg_ok {g : rv_G} {σ : List Nat} : ∀ {is js : List Nat}, rv_sg σ is = some js → js.map (rv_z g) = is.map (rv_z (rv_gs g σ)) ∧ ∀ i ∈ is, i < σ.length
  | [], js, h => by
    have h : [] = js := Option.some.inj h
    subst h
    exact ⟨rfl, fun i hi => by cases hi⟩
  | i :: r, js, h => by
    unfold rv_sg at h
    cases h1 : σ[i]? with
    | none => rw [h1] at h; cases h
    | some s =>
      cases h2 : rv_sg σ r with
      | none => rw [h1, h2] at h; cases h
      | some q =>
        rw [h1, h2] at h
        have h : s :: q = js := Option.some.inj h
        subst h
        obtain ⟨q1, q2⟩ := rv_sg_ok (g := g) h2
        refine ⟨by rw [List.map_cons, List.map_cons, q1, rv_gs_z h1], fun j hj => ?_⟩
        rcases List.mem_cons.mp hj with e1 | e1
        · rw [e1]; exact (List.getElem?_eq_some_iff.mp h1).1
        · exact q2 j e1
def rv_mE1 (RL : List rv_Rl) (E : List rv_E) (σ : List Nat) (i : Nat) (b : rv_E) (s : Nat) : Bool := match E[s]? with
  | some e => rv_le b.1 e.1 && (rv_le e.2.1 b.2.1 && ((bif Nat.beq b.2.2.1 i then rv_iz b.2.2.2.1 else (match σ[b.2.2.1]? with
    | some sb => rv_of1 E s sb b.2.2.2.1
    | none => false)) && b.2.2.2.2.all (fun f => match rv_sg σ f.2 with
    | some is => rv_der RL E (rv_fl E) 3 (f.1, is)
    | none => false)))
  | none => false
def rv_mE (RL : List rv_Rl) (E : List rv_E) (σ : List Nat) (i : Nat) (bs : List rv_E) (ss : List Nat) : Bool := match bs, ss with
  | [], [] => true
  | b :: bs, s :: ss => rv_mE1 RL E σ i b s && rv_mE RL E σ (i + 1) bs ss
  | _, _ => false
theorem rv_mE1_ok {g : rv_G} {RL : List rv_Rl} (hRL : ∀ r ∈ RL, rv_RlOk r) {E : List rv_E} (he : rv_e g E) {σ : List Nat} {i : Nat} {b : rv_E} {s : Nat} (hs : σ[i]? = some s) (h : rv_mE1 RL E σ i b s = true) : s < E.length ∧ b.1 ≤ (rv_gs g σ).1 i ∧ (rv_gs g σ).1 i ≤ b.2.1 ∧ (rv_gs g σ).1 i = (rv_gs g σ).1 b.2.2.1 + b.2.2.2.1 ∧ rv_fs (rv_gs g σ) σ.length b.2.2.2.2 := by
  unfold rv_mE1 at h
  cases hE : E[s]? with
  | none => rw [hE] at h; cases h
  | some e =>
    rw [hE] at h
    dsimp only at h
    rw [Bool.and_eq_true, Bool.and_eq_true, Bool.and_eq_true, rv_le_iff, rv_le_iff] at h
    obtain ⟨h1, h2, h3, h4⟩ := h
    obtain ⟨q1, q2, -⟩ := he s e hE
    have hi : (rv_gs g σ).1 i = g.1 s := rv_gs_at hs
    rw [hi]
    refine ⟨(List.getElem?_eq_some_iff.mp hE).1, by omega, by omega, ?_, fun f hf => ?_⟩
    · cases hb : Nat.beq b.2.2.1 i with
      | true =>
        rw [hb] at h3
        have h3 := rv_iz_ok h3
        rw [Nat.eq_of_beq_eq_true hb, hi, h3]
        omega
      | false =>
        rw [hb] at h3
        simp only [cond_false] at h3
        split at h3
        · rename_i sb hsb
          rw [rv_gs_at hsb]
          exact rv_of1_ok he h3
        · cases h3
    · have h5 := List.all_eq_true.mp h4 f hf
      split at h5
      · rename_i is his
        obtain ⟨z1, z2⟩ := rv_sg_ok (g := g) his
        have h6 := rv_der_ok he hRL (fun f hf => rv_fl_ok he hf) 3 _ h5
        rw [z1] at h6
        exact ⟨z2, h6⟩
      · cases h5
theorem rv_mE_ok {g : rv_G} {RL : List rv_Rl} (hRL : ∀ r ∈ RL, rv_RlOk r) {E : List rv_E} (he : rv_e g E) {σ : List Nat} : ∀ {bs : List rv_E} {ss : List Nat} {n : Nat}, (∀ k, ss[k]? = σ[n + k]?) → rv_mE RL E σ n bs ss = true → ss.length = bs.length ∧ ∀ (i : Nat) (b : rv_E), bs[i]? = some b → ∃ s, σ[n + i]? = some s ∧ s < E.length ∧ b.1 ≤ (rv_gs g σ).1 (n + i) ∧ (rv_gs g σ).1 (n + i) ≤ b.2.1 ∧ (rv_gs g σ).1 (n + i) = (rv_gs g σ).1 b.2.2.1 + b.2.2.2.1 ∧ rv_fs (rv_gs g σ) σ.length b.2.2.2.2
  | [], [], n, _, _ => ⟨rfl, fun i b hb => by cases hb⟩
  | [], _ :: _, _, _, h => by cases h
  | _ :: _, [], _, _, h => by cases h
  | b :: bs, s :: ss, n, hk, h => by
    unfold rv_mE at h
    rw [Bool.and_eq_true] at h
    have hs : σ[n]? = some s := by
      have := hk 0
      rw [Nat.add_zero] at this
      rw [← this]
      rfl
    obtain ⟨l1, q1⟩ := rv_mE_ok hRL he (n := n + 1) (fun k => by
      have := hk (k + 1)
      rw [show n + 1 + k = n + (k + 1) by omega]
      exact this) h.2
    refine ⟨by simp [l1], fun i c hc => ?_⟩
    match i, hc with
    | 0, hc =>
      have hc : b = c := Option.some.inj hc
      subst hc
      rw [Nat.add_zero]
      exact ⟨s, hs, rv_mE1_ok hRL he hs h.1⟩
    | i + 1, hc =>
      have := q1 i c hc
      rw [show n + 1 + i = n + (i + 1) by omega] at this
      exact this
/-- ids and cells that stand within n, N -/
def rv_okb (n N : Nat) (a : rv_V) : Bool := bif Nat.ble a.1 1 then Nat.ble (a.2 + 1) n else bif Nat.beq a.1 2 then Nat.ble (a.2 + 1) N else true
theorem rv_okb_ok {n N : Nat} {a : rv_V} (h : rv_okb n N a = true) : rv_ok n N a := by
  unfold rv_okb at h
  cases h1 : Nat.ble a.1 1 with
  | true =>
    simp only [h1, cond_true] at h
    rw [Nat.ble_eq] at h h1
    exact ⟨fun _ => by omega, fun q => by omega⟩
  | false =>
    simp only [h1, cond_false] at h
    have h1' : ¬ a.1 ≤ 1 := fun q => by rw [← Nat.ble_eq] at q; rw [h1] at q; cases q
    refine ⟨fun q => by omega, fun q => ?_⟩
    have h2 : Nat.beq a.1 2 = true := by rw [q]; rfl
    simp only [h2, cond_true] at h
    rw [Nat.ble_eq] at h
    omega
def rv_okcb (n N : Nat) (c : rv_C) : Bool := match c with
  | .inl o => o.2.all (rv_okb n N)
  | .inr a => a.2.2.2.2.1.all (fun q => Nat.ble (q.2 + 1) n) && Nat.ble (a.2.2.2.2.2 + 1) n
theorem rv_okcb_ok {n N : Nat} {c : rv_C} (h : rv_okcb n N c = true) : rv_okc n N c := by
  cases c with
  | inl o => exact fun a ha => rv_okb_ok (List.all_eq_true.mp h a ha)
  | inr a =>
    have h : (a.2.2.2.2.1.all (fun q => Nat.ble (q.2 + 1) n) && Nat.ble (a.2.2.2.2.2 + 1) n) = true := h
    rw [Bool.and_eq_true, Nat.ble_eq] at h
    refine ⟨fun q hq => ?_, by omega⟩
    have := List.all_eq_true.mp h.1 q hq
    rw [Nat.ble_eq] at this
    omega
/-- entries within n -/
def rv_wfE (n : Nat) (bs : List rv_E) : Bool := bs.all (fun b => Nat.ble (b.2.2.1 + 1) n && b.2.2.2.2.all (fun f => f.2.all (fun i => Nat.ble (i + 1) n)))
theorem rv_wfE_ok {n : Nat} {bs : List rv_E} (h : rv_wfE n bs = true) {b : rv_E} (hb : b ∈ bs) : b.2.2.1 < n ∧ ∀ f ∈ b.2.2.2.2, ∀ i ∈ f.2, i < n := by
  have := List.all_eq_true.mp h b hb
  rw [Bool.and_eq_true, Nat.ble_eq] at this
  refine ⟨by omega, fun f hf i hi => ?_⟩
  have h2 := List.all_eq_true.mp (List.all_eq_true.mp this.2 f hf) i hi
  rw [Nat.ble_eq] at h2
  omega
