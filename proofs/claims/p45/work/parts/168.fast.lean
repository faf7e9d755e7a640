/-! the same walk, made for the kernel: lookups by a table of suffixes, plain numbers behind calls -/
noncomputable def rv_nth {α : Type} (l : List α) : Nat → Option α := List.rec (motive := fun _ => Nat → Option α) (fun _ => none) (fun a _ ih i => Nat.rec (motive := fun _ => Option α) (some a) (fun k _ => ih k) i) l
theorem rv_nth_eq {α : Type} : ∀ (l : List α) (i : Nat), rv_nth l i = l[i]?
  | [], _ => List.getElem?_nil.symm
  | _ :: _, 0 => rfl
  | _ :: l, i + 1 => rv_nth_eq l i
noncomputable def rv_drp {α : Type} (n : Nat) : List α → List α := Nat.rec (motive := fun _ => List α → List α) (fun l => l) (fun _ ih l => List.rec (motive := fun _ => List α) [] (fun _ t _ => ih t) l) n
theorem rv_drp_at {α : Type} : ∀ (n : Nat) (l : List α) (i : Nat), (rv_drp n l)[i]? = l[n + i]?
  | 0, l, i => by rw [Nat.zero_add]; rfl
  | n + 1, [], i => by
    show ([] : List α)[i]? = _
    rw [List.getElem?_nil, List.getElem?_nil]
  | n + 1, a :: l, i => by
    show (rv_drp n l)[i]? = _
    rw [rv_drp_at n l i, show n + 1 + i = (n + i) + 1 by omega, List.getElem?_cons_succ]
noncomputable def rv_sfx {α : Type} (m : Nat) : List α → List (List α) := Nat.rec (motive := fun _ => List α → List (List α)) (fun _ => []) (fun _ ih l => l :: ih (rv_drp 16 l)) m
theorem rv_sfx_at {α : Type} : ∀ (m k : Nat) (l l' : List α), (rv_sfx m l)[k]? = some l' → ∀ i, l'[i]? = l[16 * k + i]?
  | 0, k, l, l', h, i => by
    have h : ([] : List (List α))[k]? = some l' := h
    rw [List.getElem?_nil] at h
    cases h
  | m + 1, 0, l, l', h, i => by
    have h : l = l' := Option.some.inj h
    subst h
    rw [Nat.mul_zero, Nat.zero_add]
  | m + 1, k + 1, l, l', h, i => by
    have h : (rv_sfx m (rv_drp 16 l))[k]? = some l' := h
    rw [rv_sfx_at m k _ l' h i, rv_drp_at, show 16 + (16 * k + i) = 16 * (k + 1) + i by omega]
noncomputable def rv_gt {α : Type} (S : List (List α)) (l : List α) (i : Nat) : Option α := Option.rec (motive := fun _ => Option α) (rv_nth l i) (fun l' => rv_nth l' (Nat.mod i 16)) (rv_nth S (Nat.div i 16))
theorem rv_gt_eq {α : Type} (m : Nat) (l : List α) (i : Nat) : rv_gt (rv_sfx m l) l i = l[i]? := by
  unfold rv_gt
  cases h : rv_nth (rv_sfx m l) (Nat.div i 16) with
  | none => exact rv_nth_eq l i
  | some l' =>
    show rv_nth l' (Nat.mod i 16) = _
    rw [rv_nth_eq] at h
    rw [rv_nth_eq, rv_sfx_at m _ l l' h]
    have e : 16 * Nat.div i 16 + Nat.mod i 16 = i := Nat.div_add_mod i 16
    rw [e]
/-! plain numbers -/
noncomputable def rv_fn {β : Type} (n : Nat) (k : Nat → β) : β := Nat.rec (motive := fun _ => β) (k 0) (fun m _ => k (Nat.succ m)) n
theorem rv_fn_eq {β : Type} (n : Nat) (k : Nat → β) : rv_fn n k = k n := by cases n <;> rfl
noncomputable def rv_fi {β : Type} (z : Int) (k : Int → β) : β := Int.rec (motive := fun _ => β) (fun n => rv_fn n (fun n => k (Int.ofNat n))) (fun n => rv_fn n (fun n => k (Int.negSucc n))) z
theorem rv_fi_eq {β : Type} (z : Int) (k : Int → β) : rv_fi z k = k z := by
  cases z with
  | ofNat n => exact rv_fn_eq n (fun n => k (Int.ofNat n))
  | negSucc n => exact rv_fn_eq n (fun n => k (Int.negSucc n))
noncomputable def rv_fL {α β : Type} (f : α → (α → β) → β) (l : List α) (k : List α → β) : β := List.rec (motive := fun _ => (List α → β) → β) (fun k => k []) (fun a _ ih k => f a (fun a' => ih (fun r => k (a' :: r)))) l k
theorem rv_fL_eq {α β : Type} {f : α → (α → β) → β} (hf : ∀ a k, f a k = k a) : ∀ (l : List α) (k : List α → β), rv_fL f l k = k l
  | [], _ => rfl
  | a :: l, k => by
    show f a (fun a' => rv_fL f l (fun r => k (a' :: r))) = _
    rw [hf, rv_fL_eq hf l]
noncomputable def rv_fp {α β : Type} (l : List α) (k : List α → β) : β := rv_fL (fun a k => k a) l k
theorem rv_fp_eq {α β : Type} (l : List α) (k : List α → β) : rv_fp l k = k l := rv_fL_eq (fun _ _ => rfl) l k
noncomputable def rv_fv {β : Type} (a : rv_V) (k : rv_V → β) : β := rv_fn a.1 (fun x => rv_fn a.2 (fun y => k (x, y)))
theorem rv_fv_eq {β : Type} (a : rv_V) (k : rv_V → β) : rv_fv a k = k a := by unfold rv_fv; rw [rv_fn_eq, rv_fn_eq]
noncomputable def rv_fl1 {β : Type} (q : Nat × rv_V) (k : Nat × rv_V → β) : β := rv_fv q.2 (fun v => k (q.1, v))
theorem rv_fl1_eq {β : Type} (q : Nat × rv_V) (k : Nat × rv_V → β) : rv_fl1 q k = k q := by unfold rv_fl1; rw [rv_fv_eq]
noncomputable def rv_ff {β : Type} (f : rv_Fc) (k : rv_Fc → β) : β := rv_fn f.1 (fun t => rv_fL rv_fn f.2 (fun is => k (t, is)))
theorem rv_ff_eq {β : Type} (f : rv_Fc) (k : rv_Fc → β) : rv_ff f k = k f := by unfold rv_ff; rw [rv_fn_eq, rv_fL_eq rv_fn_eq]
noncomputable def rv_fe {β : Type} (e : rv_E) (k : rv_E → β) : β := rv_fi e.1 (fun a => rv_fi e.2.1 (fun b => rv_fn e.2.2.1 (fun c => rv_fi e.2.2.2.1 (fun d => rv_fL rv_ff e.2.2.2.2 (fun fs => k (a, b, c, d, fs))))))
theorem rv_fe_eq {β : Type} (e : rv_E) (k : rv_E → β) : rv_fe e k = k e := by unfold rv_fe; rw [rv_fi_eq, rv_fi_eq, rv_fn_eq, rv_fi_eq, rv_fL_eq rv_ff_eq]
noncomputable def rv_fc {β : Type} (c : rv_C) (k : rv_C → β) : β := match c with
  | .inl o => rv_fn o.1 (fun a => rv_fL rv_fv o.2 (fun fs => k (.inl (a, fs))))
  | .inr a => rv_fn a.1 (fun x1 => rv_fn a.2.1 (fun x2 => rv_fi a.2.2.1 (fun x3 => rv_fi a.2.2.2.1 (fun x4 => rv_fL rv_fv a.2.2.2.2.1 (fun x5 => rv_fn a.2.2.2.2.2 (fun x6 => k (.inr (x1, x2, x3, x4, x5, x6))))))))
theorem rv_fc_eq {β : Type} (c : rv_C) (k : rv_C → β) : rv_fc c k = k c := by
  cases c with
  | inl o => unfold rv_fc; dsimp only; rw [rv_fn_eq, rv_fL_eq rv_fv_eq]
  | inr a => unfold rv_fc; dsimp only; rw [rv_fn_eq, rv_fn_eq, rv_fi_eq, rv_fi_eq, rv_fL_eq rv_fv_eq, rv_fn_eq]
noncomputable def rv_fD (S : rv_N) (k : rv_N → Bool) : Bool := rv_fn S.1 (fun pc => rv_fL rv_fe S.2.1 (fun E => rv_fL rv_fl1 S.2.2.1 (fun L => rv_fL rv_fv S.2.2.2.1 (fun K => rv_fL rv_fc S.2.2.2.2.1 (fun X => rv_fn S.2.2.2.2.2.1 (fun cn => rv_fn S.2.2.2.2.2.2 (fun sn => k (pc, E, L, K, X, cn, sn))))))))
theorem rv_fD_eq (S : rv_N) (k : rv_N → Bool) : rv_fD S k = k S := by
  unfold rv_fD
  rw [rv_fn_eq, rv_fL_eq rv_fe_eq, rv_fL_eq rv_fl1_eq, rv_fL_eq rv_fv_eq, rv_fL_eq rv_fc_eq, rv_fn_eq, rv_fn_eq]
/-! matching -/
noncomputable def rv_canF (S : List (List rv_E)) (E : List rv_E) (s : Nat) : Nat := match rv_gt S E s with
  | some e => bif rv_iz e.2.2.2.1 then e.2.2.1 else s
  | none => s
abbrev rv_Q := Nat × List Nat
def rv_qs (n0 : Nat) (q : rv_Q) : List Nat := List.range n0 ++ q.2.reverse
def rv_qi (n0 : Nat) (q : rv_Q) : Prop := q.1 = n0 + q.2.length
theorem rv_qs_len {n0 : Nat} {q : rv_Q} (h : rv_qi n0 q) : (rv_qs n0 q).length = q.1 := by
  unfold rv_qs
  rw [List.length_append, List.length_range, List.length_reverse]
  exact h.symm
noncomputable def rv_psh (q : rv_Q) (s : Nat) : Option rv_Q := rv_fn s (fun s => rv_fn (q.1 + 1) (fun n => some (n, s :: q.2)))
noncomputable def rv_miF (n0 : Nat) (q : rv_Q) (t s : Nat) : Option rv_Q := bif Nat.ble (t + 1) n0 then (bif Nat.beq t s then some q else none) else bif Nat.beq t q.1 then rv_psh q s else bif Nat.ble (t + 1) q.1 then (match rv_nth q.2 (q.1 - (t + 1)) with
  | some s' => bif Nat.beq s' s then some q else none
  | none => none) else none
theorem rv_miF_ok {n0 : Nat} {q q' : rv_Q} {t s : Nat} (hq : rv_qi n0 q) (h : rv_miF n0 q t s = some q') : rv_mi (rv_qs n0 q) t s = some (rv_qs n0 q') ∧ rv_qi n0 q' := by
  unfold rv_miF at h
  have hl := rv_qs_len hq
  unfold rv_mi
  rw [hl]
  have hq1 : q.1 = n0 + q.2.length := hq
  cases h1 : Nat.ble (t + 1) n0 with
  | true =>
    simp only [h1, cond_true] at h
    have h1 : t + 1 ≤ n0 := Nat.le_of_ble_eq_true h1
    cases h2 : Nat.beq t s with
    | false => simp only [h2, cond_false] at h; cases h
    | true =>
      simp only [h2, cond_true] at h
      have h := Option.some.inj h
      subst h
      have e1 : Nat.beq t q.1 = false := by
        cases hb : Nat.beq t q.1 with
        | false => rfl
        | true => have := Nat.eq_of_beq_eq_true hb; omega
      have e2 : (rv_qs n0 q)[t]? = some t := by unfold rv_qs; exact rv_range_at h1 _
      rw [e1, e2]
      dsimp only [cond_false]
      rw [h2]
      exact ⟨rfl, hq⟩
  | false =>
    simp only [h1, cond_false] at h
    have h1 : ¬ t + 1 ≤ n0 := fun z => by rw [Nat.ble_eq_true_of_le z] at h1; cases h1
    cases h2 : Nat.beq t q.1 with
    | true =>
      simp only [h2, cond_true] at h ⊢
      unfold rv_psh at h
      rw [rv_fn_eq, rv_fn_eq] at h
      have h := Option.some.inj h
      subst h
      refine ⟨?_, ?_⟩
      · unfold rv_qs
        rw [List.reverse_cons, List.append_assoc]
      · show q.1 + 1 = n0 + (s :: q.2).length
        rw [List.length_cons]
        omega
    | false =>
      simp only [h2, cond_false] at h ⊢
      cases h3 : Nat.ble (t + 1) q.1 with
      | false => simp only [h3, cond_false] at h; cases h
      | true =>
        simp only [h3, cond_true] at h
        have h3 : t + 1 ≤ q.1 := Nat.le_of_ble_eq_true h3
        rw [rv_nth_eq] at h
        have e2 : (rv_qs n0 q)[t]? = q.2[q.1 - (t + 1)]? := by
          unfold rv_qs
          rw [List.getElem?_append_right (by rw [List.length_range]; omega), List.length_range, List.getElem?_reverse (by omega)]
          congr 1
          omega
        rw [e2]
        cases h4 : q.2[q.1 - (t + 1)]? with
        | none => rw [h4] at h; cases h
        | some s' =>
          rw [h4] at h
          dsimp only at h ⊢
          cases h5 : Nat.beq s' s with
          | false => simp only [h5, cond_false] at h; cases h
          | true =>
            simp only [h5, cond_true] at h ⊢
            have h := Option.some.inj h
            subst h
            exact ⟨rfl, hq⟩
section
variable {S : List (List rv_E)} {E : List rv_E} {n0 : Nat}
theorem rv_canF_eq (hS : ∀ i, rv_gt S E i = E[i]?) (s : Nat) : rv_canF S E s = rv_can E s := by
  unfold rv_canF rv_can
  rw [hS]
  rfl
noncomputable def rv_m1F (S : List (List rv_E)) (E : List rv_E) (n0 : Nat) (q : rv_Q) (t s : rv_V) : Option rv_Q := bif Nat.beq t.1 s.1 then (bif Nat.ble t.1 1 then rv_miF n0 q t.2 (rv_canF S E s.2) else (bif Nat.beq t.2 s.2 then some q else none)) else none
theorem rv_m1F_ok (hS : ∀ i, rv_gt S E i = E[i]?) {q q' : rv_Q} {t s : rv_V} (hq : rv_qi n0 q) (h : rv_m1F S E n0 q t s = some q') : rv_m1 E (rv_qs n0 q) t s = some (rv_qs n0 q') ∧ rv_qi n0 q' := by
  unfold rv_m1F at h
  unfold rv_m1
  rw [rv_canF_eq hS] at h
  cases h1 : Nat.beq t.1 s.1 with
  | false => simp only [h1, cond_false] at h; cases h
  | true =>
    simp only [h1, cond_true] at h ⊢
    cases h2 : Nat.ble t.1 1 with
    | true =>
      simp only [h2, cond_true] at h ⊢
      exact rv_miF_ok hq h
    | false =>
      simp only [h2, cond_false] at h ⊢
      cases h3 : Nat.beq t.2 s.2 with
      | false => simp only [h3, cond_false] at h; cases h
      | true =>
        simp only [h3, cond_true] at h ⊢
        have h := Option.some.inj h
        subst h
        exact ⟨rfl, hq⟩
noncomputable def rv_mVF (S : List (List rv_E)) (E : List rv_E) (n0 : Nat) (q : rv_Q) (ts ss : List rv_V) : Option rv_Q := match ts, ss with
  | [], [] => some q
  | t :: ts, s :: ss => match rv_m1F S E n0 q t s with
    | some q' => rv_mVF S E n0 q' ts ss
    | none => none
  | _, _ => none
theorem rv_mVF_ok (hS : ∀ i, rv_gt S E i = E[i]?) : ∀ {ts ss : List rv_V} {q q' : rv_Q}, rv_qi n0 q → rv_mVF S E n0 q ts ss = some q' → rv_mV E (rv_qs n0 q) ts ss = some (rv_qs n0 q') ∧ rv_qi n0 q'
  | [], [], q, q', hq, h => by
    have h : q = q' := Option.some.inj h
    subst h
    exact ⟨rfl, hq⟩
  | [], _ :: _, _, _, _, h => by cases h
  | _ :: _, [], _, _, _, h => by cases h
  | t :: ts, s :: ss, q, q', hq, h => by
    unfold rv_mVF at h
    unfold rv_mV
    cases h1 : rv_m1F S E n0 q t s with
    | none => rw [h1] at h; cases h
    | some q1 =>
      rw [h1] at h
      obtain ⟨a1, a2⟩ := rv_m1F_ok hS hq h1
      rw [a1]
      exact rv_mVF_ok hS a2 h
noncomputable def rv_mTF (S : List (List rv_E)) (E : List rv_E) (n0 : Nat) (src : List (Nat × Nat)) (q : rv_Q) (tt : List (Nat × Nat)) : Option rv_Q := match tt with
  | [] => some q
  | z :: r => match rv_tr src z.1 with
    | some s => match rv_miF n0 q z.2 (rv_canF S E s) with
      | some q' => rv_mTF S E n0 src q' r
      | none => none
    | none => none
theorem rv_mTF_ok (hS : ∀ i, rv_gt S E i = E[i]?) {src : List (Nat × Nat)} : ∀ {tt : List (Nat × Nat)} {q q' : rv_Q}, rv_qi n0 q → rv_mTF S E n0 src q tt = some q' → rv_mT E src (rv_qs n0 q) tt = some (rv_qs n0 q') ∧ rv_qi n0 q'
  | [], q, q', hq, h => by
    have h : q = q' := Option.some.inj h
    subst h
    exact ⟨rfl, hq⟩
  | z :: r, q, q', hq, h => by
    unfold rv_mTF at h
    unfold rv_mT
    cases h0 : rv_tr src z.1 with
    | none => rw [h0] at h; cases h
    | some s =>
      rw [h0] at h
      dsimp only at h ⊢
      rw [rv_canF_eq hS] at h
      cases h1 : rv_miF n0 q z.2 (rv_can E s) with
      | none => rw [h1] at h; cases h
      | some q1 =>
        rw [h1] at h
        obtain ⟨a1, a2⟩ := rv_miF_ok hq h1
        rw [a1]
        exact rv_mTF_ok hS a2 h
noncomputable def rv_mDF (S : List (List rv_E)) (E : List rv_E) (lo hi : Int) (tt : List (Nat × Nat)) (src : List (Nat × Nat)) : Bool := match src with
  | [] => true
  | q :: r => (match rv_tr tt q.1 with
    | some _ => true
    | none => match rv_gt S E q.2 with
      | some e => rv_le lo e.1 && rv_le e.2.1 hi
      | none => false) && rv_mDF S E lo hi tt r
theorem rv_mDF_eq (hS : ∀ i, rv_gt S E i = E[i]?) {lo hi : Int} {tt : List (Nat × Nat)} : ∀ (src : List (Nat × Nat)), rv_mDF S E lo hi tt src = rv_mD E lo hi tt src
  | [] => rfl
  | q :: r => by
    unfold rv_mDF rv_mD
    rw [rv_mDF_eq hS r, hS]
    rfl
noncomputable def rv_mCF (S : List (List rv_E)) (E : List rv_E) (n0 : Nat) (q : rv_Q) (t s : rv_C) : Option rv_Q := match t, s with
  | .inl o, .inl o' => bif Nat.beq o.1 o'.1 then rv_mVF S E n0 q o.2 o'.2 else none
  | .inr a, .inr b => bif Nat.beq a.1 b.1 && (Nat.beq a.2.1 b.2.1 && (rv_le a.2.2.1 b.2.2.1 && (rv_le b.2.2.2.1 a.2.2.2.1 && rv_mDF S E a.2.2.1 a.2.2.2.1 a.2.2.2.2.1 b.2.2.2.2.1))) then (match rv_mTF S E n0 b.2.2.2.2.1 q a.2.2.2.2.1 with
    | some q1 => rv_miF n0 q1 a.2.2.2.2.2 b.2.2.2.2.2
    | none => none) else none
  | _, _ => none
theorem rv_mCF_ok (hS : ∀ i, rv_gt S E i = E[i]?) {t s : rv_C} {q q' : rv_Q} (hq : rv_qi n0 q) (h : rv_mCF S E n0 q t s = some q') : rv_mC E (rv_qs n0 q) t s = some (rv_qs n0 q') ∧ rv_qi n0 q' := by
  unfold rv_mCF at h
  unfold rv_mC
  cases t with
  | inl o =>
    cases s with
    | inr b => cases h
    | inl o' =>
      dsimp only at h ⊢
      cases h0 : Nat.beq o.1 o'.1 with
      | false => simp only [h0, cond_false] at h; cases h
      | true =>
        simp only [h0, cond_true] at h ⊢
        exact rv_mVF_ok hS hq h
  | inr a =>
    cases s with
    | inl o' => cases h
    | inr b =>
      dsimp only at h ⊢
      rw [rv_mDF_eq hS] at h
      cases h0 : (Nat.beq a.1 b.1 && (Nat.beq a.2.1 b.2.1 && (rv_le a.2.2.1 b.2.2.1 && (rv_le b.2.2.2.1 a.2.2.2.1 && rv_mD E a.2.2.1 a.2.2.2.1 a.2.2.2.2.1 b.2.2.2.2.1)))) with
      | false => simp only [h0, cond_false] at h; cases h
      | true =>
        simp only [h0, cond_true] at h ⊢
        cases h1 : rv_mTF S E n0 b.2.2.2.2.1 q a.2.2.2.2.1 with
        | none => rw [h1] at h; cases h
        | some q1 =>
          rw [h1] at h
          obtain ⟨a1, a2⟩ := rv_mTF_ok hS hq h1
          rw [a1]
          exact rv_miF_ok a2 h
noncomputable def rv_mXF (S : List (List rv_E)) (E : List rv_E) (n0 : Nat) (q : rv_Q) (ts ss : List rv_C) : Option rv_Q := match ts, ss with
  | [], [] => some q
  | t :: ts, s :: ss => match rv_mCF S E n0 q t s with
    | some q' => rv_mXF S E n0 q' ts ss
    | none => none
  | _, _ => none
theorem rv_mXF_ok (hS : ∀ i, rv_gt S E i = E[i]?) : ∀ {ts ss : List rv_C} {q q' : rv_Q}, rv_qi n0 q → rv_mXF S E n0 q ts ss = some q' → rv_mX E (rv_qs n0 q) ts ss = some (rv_qs n0 q') ∧ rv_qi n0 q'
  | [], [], q, q', hq, h => by
    have h : q = q' := Option.some.inj h
    subst h
    exact ⟨rfl, hq⟩
  | [], _ :: _, _, _, _, h => by cases h
  | _ :: _, [], _, _, _, h => by cases h
  | t :: ts, s :: ss, q, q', hq, h => by
    unfold rv_mXF at h
    unfold rv_mX
    cases h1 : rv_mCF S E n0 q t s with
    | none => rw [h1] at h; cases h
    | some q1 =>
      rw [h1] at h
      obtain ⟨a1, a2⟩ := rv_mCF_ok hS hq h1
      rw [a1]
      dsimp only
      rw [rv_fz_eq]
      exact rv_mXF_ok hS a2 h
noncomputable def rv_mLF (S : List (List rv_E)) (E : List rv_E) (n0 : Nat) (src : List (Nat × rv_V)) (q : rv_Q) (tl : List (Nat × rv_V)) : Option rv_Q := match tl with
  | [] => some q
  | z :: r => match rv_lk src z.1 with
    | some s => match rv_m1F S E n0 q z.2 s with
      | some q' => rv_mLF S E n0 src q' r
      | none => none
    | none => none
theorem rv_mLF_ok (hS : ∀ i, rv_gt S E i = E[i]?) {src : List (Nat × rv_V)} : ∀ {tl : List (Nat × rv_V)} {q q' : rv_Q}, rv_qi n0 q → rv_mLF S E n0 src q tl = some q' → rv_mL E src (rv_qs n0 q) tl = some (rv_qs n0 q') ∧ rv_qi n0 q'
  | [], q, q', hq, h => by
    have h : q = q' := Option.some.inj h
    subst h
    exact ⟨rfl, hq⟩
  | z :: r, q, q', hq, h => by
    unfold rv_mLF at h
    unfold rv_mL
    cases h0 : rv_lk src z.1 with
    | none => rw [h0] at h; cases h
    | some s =>
      rw [h0] at h
      dsimp only at h ⊢
      cases h1 : rv_m1F S E n0 q z.2 s with
      | none => rw [h1] at h; cases h
      | some q1 =>
        rw [h1] at h
        obtain ⟨a1, a2⟩ := rv_m1F_ok hS hq h1
        rw [a1]
        exact rv_mLF_ok hS a2 h
noncomputable def rv_sgF (SS : List (List Nat)) (σ : List Nat) (is : List Nat) : Option (List Nat) := match is with
  | [] => some []
  | i :: r => match rv_gt SS σ i, rv_sgF SS σ r with
    | some s, some q => some (s :: q)
    | _, _ => none
theorem rv_sgF_eq {SS : List (List Nat)} {σ : List Nat} (hSS : ∀ i, rv_gt SS σ i = σ[i]?) : ∀ (is : List Nat), rv_sgF SS σ is = rv_sg σ is
  | [] => rfl
  | i :: r => by
    unfold rv_sgF rv_sg
    rw [rv_sgF_eq hSS r, hSS]
    rfl
noncomputable def rv_of1F (S : List (List rv_E)) (E : List rv_E) (i j : Nat) (k : Int) : Bool := match rv_gt S E i, rv_gt S E j with
  | some a, some b => (Nat.beq a.2.2.1 b.2.2.1 && (rv_le a.2.2.2.1 (b.2.2.2.1 + k) && rv_le (b.2.2.2.1 + k) a.2.2.2.1)) || (rv_le a.2.1 a.1 && (rv_le b.2.1 b.1 && (rv_le a.1 (b.1 + k) && rv_le (b.1 + k) a.1)))
  | _, _ => false
theorem rv_of1F_eq (hS : ∀ i, rv_gt S E i = E[i]?) (i j : Nat) (k : Int) : rv_of1F S E i j k = rv_of1 E i j k := by
  unfold rv_of1F rv_of1
  rw [hS, hS]
  rfl
noncomputable def rv_bd1F (S : List (List rv_E)) (E : List rv_E) (i : Nat) (lo hi : Int) : Bool := match rv_gt S E i with
  | some e => rv_le lo e.1 && rv_le e.2.1 hi
  | none => false
theorem rv_bd1F_eq (hS : ∀ i, rv_gt S E i = E[i]?) (i : Nat) (lo hi : Int) : rv_bd1F S E i lo hi = rv_bd1 E i lo hi := by
  unfold rv_bd1F rv_bd1
  rw [hS]
  rfl
noncomputable def rv_biF (S : List (List rv_E)) (E : List rv_E) (f : rv_Fc) : Bool := match f with
  | (1, [x, y]) => (match rv_gt S E x, rv_gt S E y with
    | some a, some b => rv_le (a.2.1 + 1) b.1 || (Nat.beq a.2.2.1 b.2.2.1 && rv_le (a.2.2.2.1 + 1) b.2.2.2.1)
    | _, _ => false)
  | (2, [x, y]) => (match rv_gt S E x, rv_gt S E y with
    | some a, some b => rv_le a.2.1 b.1 || (Nat.beq a.2.2.1 b.2.2.1 && rv_le a.2.2.2.1 b.2.2.2.1)
    | _, _ => false)
  | (3, [x, y]) => rv_of1F S E x y 0
  | _ => false
theorem rv_biF_eq (hS : ∀ i, rv_gt S E i = E[i]?) (f : rv_Fc) : rv_biF S E f = rv_bi E f := by
  unfold rv_biF rv_bi
  simp only [hS, rv_of1F_eq hS]
  rfl
noncomputable def rv_tryF (der : rv_Fc → Bool) (S : List (List rv_E)) (E : List rv_E) (FL : List rv_Fc) (s : List (Nat × Nat)) (ps : List rv_Pm) : Bool := match ps with
  | [] => true
  | (t, vs, lo, hi) :: ps => bif Nat.beq t 1000 then (match rv_all s vs with
      | some [i] => rv_bd1F S E i lo hi && rv_tryF der S E FL s ps
      | _ => false) else bif Nat.beq t 1001 then (match rv_all s vs with
      | some [i, j] => rv_of1F S E i j lo && rv_tryF der S E FL s ps
      | _ => false) else (FL.any (fun f => Nat.beq f.1 t && (match rv_uni s vs f.2 with
      | some s' => rv_tryF der S E FL s' ps
      | none => false)) || (match rv_all s vs with
      | some is => der (t, is) && rv_tryF der S E FL s ps
      | none => false))
theorem rv_tryF_eq (hS : ∀ i, rv_gt S E i = E[i]?) (der : rv_Fc → Bool) (FL : List rv_Fc) : ∀ (ps : List rv_Pm) (s : List (Nat × Nat)), rv_tryF der S E FL s ps = rv_try der E FL s ps
  | [], _ => rfl
  | (t, vs, lo, hi) :: ps, s => by
    unfold rv_tryF rv_try
    simp only [rv_tryF_eq hS der FL ps, rv_bd1F_eq hS, rv_of1F_eq hS]
    rfl
noncomputable def rv_derF (RL : List rv_Rl) (S : List (List rv_E)) (E : List rv_E) (FL : List rv_Fc) (fu : Nat) (f : rv_Fc) : Bool := match fu with
  | 0 => rv_biF S E f || FL.any (fun q => Nat.beq q.1 f.1 && rv_leq q.2 f.2)
  | n + 1 => rv_biF S E f || (FL.any (fun q => Nat.beq q.1 f.1 && rv_leq q.2 f.2) || RL.any (fun r => Nat.beq r.1 f.1 && (match rv_uni [] r.2.1 f.2 with
    | some s => rv_tryF (rv_derF RL S E FL n) S E FL s r.2.2
    | none => false)))
theorem rv_derF_eq (hS : ∀ i, rv_gt S E i = E[i]?) (RL : List rv_Rl) (FL : List rv_Fc) : ∀ fu : Nat, rv_derF RL S E FL fu = rv_der RL E FL fu
  | 0 => by
    funext f
    unfold rv_derF rv_der
    rw [rv_biF_eq hS]
  | n + 1 => by
    funext f
    unfold rv_derF rv_der
    rw [rv_derF_eq hS RL FL n, rv_biF_eq hS]
    simp only [rv_tryF_eq hS]
    rfl
noncomputable def rv_mE1F (RL : List rv_Rl) (S : List (List rv_E)) (E : List rv_E) (FL : List rv_Fc) (SS : List (List Nat)) (σ : List Nat) (i : Nat) (b : rv_E) (s : Nat) : Bool := match rv_gt S E s with
  | some e => rv_le b.1 e.1 && (rv_le e.2.1 b.2.1 && ((bif Nat.beq b.2.2.1 i then rv_iz b.2.2.2.1 else (match rv_gt SS σ b.2.2.1 with
    | some sb => rv_of1F S E s sb b.2.2.2.1
    | none => false)) && b.2.2.2.2.all (fun f => match rv_sgF SS σ f.2 with
    | some is => rv_derF RL S E FL 3 (f.1, is)
    | none => false)))
  | none => false
theorem rv_mE1F_eq (hS : ∀ i, rv_gt S E i = E[i]?) {RL : List rv_Rl} {SS : List (List Nat)} {σ : List Nat} (hSS : ∀ i, rv_gt SS σ i = σ[i]?) (i : Nat) (b : rv_E) (s : Nat) : rv_mE1F RL S E (rv_fl E) SS σ i b s = rv_mE1 RL E σ i b s := by
  unfold rv_mE1F rv_mE1
  rw [hS, hSS]
  simp only [rv_of1F_eq hS, rv_sgF_eq hSS, rv_derF_eq hS]
  rfl
noncomputable def rv_mEF (RL : List rv_Rl) (S : List (List rv_E)) (E : List rv_E) (FL : List rv_Fc) (SS : List (List Nat)) (σ : List Nat) (i : Nat) (bs : List rv_E) (ss : List Nat) : Bool := match bs, ss with
  | [], [] => true
  | b :: bs, s :: ss => rv_mE1F RL S E FL SS σ i b s && rv_mEF RL S E FL SS σ (i + 1) bs ss
  | _, _ => false
theorem rv_mEF_eq (hS : ∀ i, rv_gt S E i = E[i]?) {RL : List rv_Rl} {SS : List (List Nat)} {σ : List Nat} (hSS : ∀ i, rv_gt SS σ i = σ[i]?) : ∀ (bs : List rv_E) (i : Nat) (ss : List Nat), rv_mEF RL S E (rv_fl E) SS σ i bs ss = rv_mE RL E σ i bs ss
  | [], _, [] => rfl
  | [], _, _ :: _ => rfl
  | _ :: _, _, [] => rfl
  | b :: bs, i, s :: ss => by
    unfold rv_mEF rv_mE
    rw [rv_mEF_eq hS hSS bs, rv_mE1F_eq hS hSS]
end
theorem rv_q0 (n0 : Nat) : rv_qi n0 (n0, []) ∧ rv_qs n0 (n0, []) = List.range n0 := ⟨rfl, by unfold rv_qs; rw [List.reverse_nil, List.append_nil]⟩
/-! calls -/
noncomputable def rv_rnF (SS : List (List Nat)) (σ : List Nat) (n e t : Nat) : Nat := bif Nat.ble (t + 1) n then (match rv_gt SS σ t with
  | some s => s
  | none => 0) else e + (t - n)
theorem rv_rnF_eq {SS : List (List Nat)} {σ : List Nat} (hSS : ∀ i, rv_gt SS σ i = σ[i]?) (n e : Nat) : rv_rnF SS σ n e = rv_rn σ n e := by
  funext t
  unfold rv_rnF rv_rn
  rw [hSS, List.getD_eq_getElem?_getD]
  cases σ[t]? <;> rfl
def rv_gV (r : Nat → Nat) (a : rv_V) : rv_V := bif Nat.ble a.1 1 then (a.1, r a.2) else a
def rv_gC (r : Nat → Nat) (c : rv_C) : rv_C := match c with
  | .inl o => .inl (o.1, o.2.map (rv_gV r))
  | .inr a => .inr (a.1, a.2.1, a.2.2.1, a.2.2.2.1, a.2.2.2.2.1.map (fun q => (q.1, r q.2)), r a.2.2.2.2.2)
def rv_gE (r : Nat → Nat) (b : rv_E) : rv_E := (b.1, b.2.1, r b.2.2.1, b.2.2.2.1, b.2.2.2.2.map (fun f => (f.1, f.2.map r)))
theorem rv_gV_eq (σ : List Nat) (n e : Nat) : rv_gV (rv_rn σ n e) = rv_rnV σ n e := rfl
theorem rv_gC_eq (σ : List Nat) (n e : Nat) : rv_gC (rv_rn σ n e) = rv_rnC σ n e := by
  funext c
  cases c <;> rfl
theorem rv_gE_eq (σ : List Nat) (n e : Nat) : rv_gE (rv_rn σ n e) = rv_rnE σ n e := rfl
def rv_outG (K : rv_K) (r : Nat → Nat) (σ : List Nat) (pc : Nat) (E : List rv_E) (L : List (Nat × rv_V)) (St : List rv_V) (cn sn : Nat) (o : rv_O) : List rv_N := match rv_cuts σ (E ++ o.2.1.map (rv_gE r)) o.1 with
  | some E1 => [(pc + 3, E1, L, (o.2.2.1.map (rv_gV r)).toList ++ St.drop K.2.1.length, o.2.2.2.map (rv_gC r), cn + K.2.2.2.2.1, sn + K.2.2.2.2.2)]
  | none => []
theorem rv_outG_eq (K : rv_K) (σ : List Nat) (pc : Nat) (E : List rv_E) (L : List (Nat × rv_V)) (St : List rv_V) (cn sn : Nat) : rv_outG K (rv_rn σ K.1.length E.length) σ pc E L St cn sn = rv_out K σ pc E L St cn sn := by
  funext o
  unfold rv_outG rv_out
  rw [rv_gE_eq, rv_gV_eq, rv_gC_eq]
  rfl
noncomputable def rv_callH (RL : List rv_Rl) (K : rv_K) (ce sl : Nat) (pc : Nat) (S : List (List rv_E)) (E : List rv_E) (L : List (Nat × rv_V)) (St : List rv_V) (cn sn : Nat) (SS : List (List Nat)) (σ : List Nat) : Option (List rv_N) := bif rv_fp (rv_fl E) (fun FL => rv_mEF RL S E FL SS σ 0 K.1 σ) && (Nat.ble (rv_catS (St.drop K.2.1.length)) 8 && (Nat.ble (cn + K.2.2.2.2.1) ce && Nat.ble (sn + K.2.2.2.2.2) sl)) then
    rv_fn K.1.length (fun kn => rv_fn E.length (fun en => some (K.2.2.2.1.flatMap (rv_outG K (rv_rnF SS σ kn en) σ pc E L St cn sn)))) else none
noncomputable def rv_callG (RL : List rv_Rl) (K : rv_K) (ce sl : Nat) (pc : Nat) (S : List (List rv_E)) (E : List rv_E) (L : List (Nat × rv_V)) (St : List rv_V) (X : List rv_C) (cn sn : Nat) : Option (List rv_N) := match rv_mXF S E 0 (0, []) K.2.2.1 X with
  | some q1 => match rv_mVF S E 0 q1 K.2.1 (St.take K.2.1.length).reverse with
    | some q => rv_fp q.2.reverse (fun σ => rv_callH RL K ce sl pc S E L St cn sn (rv_sfx 24 σ) σ)
    | none => none
  | none => none
theorem rv_callG_ok {RL : List rv_Rl} {K : rv_K} {ce sl pc : Nat} {E : List rv_E} {L : List (Nat × rv_V)} {St : List rv_V} {X : List rv_C} {cn sn : Nat} {Ns : List rv_N} (h : rv_callG RL K ce sl pc (rv_sfx 24 E) E L St X cn sn = some Ns) : rv_call RL K ce sl pc E L St X cn sn = some Ns := by
  unfold rv_callG at h
  unfold rv_call
  have hS : ∀ i, rv_gt (rv_sfx 24 E) E i = E[i]? := rv_gt_eq 24 E
  cases h1 : rv_mXF (rv_sfx 24 E) E 0 (0, []) K.2.2.1 X with
  | none => rw [h1] at h; cases h
  | some q1 =>
    rw [h1] at h
    dsimp only at h
    obtain ⟨a1, a2⟩ := rv_mXF_ok hS (rv_q0 0).1 h1
    have a1 : rv_mX E [] K.2.2.1 X = some (rv_qs 0 q1) := a1
    rw [a1]
    cases h2 : rv_mVF (rv_sfx 24 E) E 0 q1 K.2.1 (St.take K.2.1.length).reverse with
    | none => rw [h2] at h; cases h
    | some q =>
      rw [h2] at h
      dsimp only at h ⊢
      obtain ⟨b1, b2⟩ := rv_mVF_ok hS a2 h2
      rw [b1]
      dsimp only
      rw [rv_fp_eq] at h
      have hq : rv_qs 0 q = q.2.reverse := rfl
      rw [hq]
      unfold rv_callH at h
      have hSS : ∀ i, rv_gt (rv_sfx 24 q.2.reverse) q.2.reverse i = q.2.reverse[i]? := rv_gt_eq 24 _
      rw [rv_fp_eq, rv_mEF_eq hS hSS, rv_fn_eq, rv_fn_eq, rv_rnF_eq hSS, rv_outG_eq] at h
      exact h
/-! the end of a method -/
noncomputable def rv_retY (RL : List rv_Rl) (K : rv_K) (o : rv_O) (n0 : Nat) (S : List (List rv_E)) (E : List rv_E) (cn sn : Nat) (τ σ : List Nat) : Bool := rv_fp (rv_fl E) (fun FL => rv_mEF RL S E FL (rv_sfx 24 σ) σ n0 o.2.1 τ) && (o.1.all (fun q => rv_bd1 E q.1 q.2.1 q.2.2) && (Nat.ble cn K.2.2.2.2.1 && Nat.ble sn K.2.2.2.2.2))
noncomputable def rv_retG (RL : List rv_Rl) (K : rv_K) (o : rv_O) (n0 : Nat) (q : rv_Q) (S : List (List rv_E)) (E : List rv_E) (X : List rv_C) (cn sn : Nat) : Bool := match rv_mXF S E n0 q o.2.2.2 X with
  | some q' => rv_fp q'.2.reverse (fun τ => rv_fp (List.range n0 ++ τ) (fun σ => rv_retY RL K o n0 S E cn sn τ σ))
  | none => false
theorem rv_retG_ok {RL : List rv_Rl} {K : rv_K} {o : rv_O} {q : rv_Q} {E : List rv_E} {X : List rv_C} {cn sn : Nat} (hq : rv_qi K.1.length q) (h : rv_retG RL K o K.1.length q (rv_sfx 24 E) E X cn sn = true) : rv_retX RL K o (rv_qs K.1.length q) E X cn sn = true := by
  unfold rv_retG at h
  unfold rv_retX
  have hS : ∀ i, rv_gt (rv_sfx 24 E) E i = E[i]? := rv_gt_eq 24 E
  cases h1 : rv_mXF (rv_sfx 24 E) E K.1.length q o.2.2.2 X with
  | none => rw [h1] at h; cases h
  | some q' =>
    rw [h1] at h
    dsimp only at h
    obtain ⟨a1, a2⟩ := rv_mXF_ok hS hq h1
    rw [a1]
    dsimp only
    rw [rv_fp_eq, rv_fp_eq] at h
    unfold rv_retY at h
    have hs : (rv_qs K.1.length q').drop K.1.length = q'.2.reverse := by
      unfold rv_qs
      rw [List.drop_append_of_le_length (by rw [List.length_range]; exact Nat.le_refl _), List.drop_of_length_le (by rw [List.length_range]; exact Nat.le_refl _), List.nil_append]
    rw [hs]
    have hSS : ∀ i, rv_gt (rv_sfx 24 (rv_qs K.1.length q')) (rv_qs K.1.length q') i = (rv_qs K.1.length q')[i]? := rv_gt_eq 24 _
    have h : (rv_fp (rv_fl E) (fun FL => rv_mEF RL (rv_sfx 24 E) E FL (rv_sfx 24 (rv_qs K.1.length q')) (rv_qs K.1.length q') K.1.length o.2.1 q'.2.reverse) && (o.1.all (fun q => rv_bd1 E q.1 q.2.1 q.2.2) && (Nat.ble cn K.2.2.2.2.1 && Nat.ble sn K.2.2.2.2.2))) = true := h
    rw [rv_fp_eq, rv_mEF_eq hS hSS] at h
    exact h
noncomputable def rv_ansq (n0 : Nat) (S : List (List rv_E)) (E : List rv_E) (t a : rv_V) (bs : List rv_E) : Bool := bif Nat.beq t.2 n0 then (match bs, rv_gt S E a.2 with
  | b :: _, some e => rv_le b.1 e.1 && rv_le e.2.1 b.2.1
  | _, _ => true) else true
noncomputable def rv_ret1G (RL : List rv_Rl) (K : rv_K) (n0 : Nat) (res : Option rv_V) (S : List (List rv_E)) (E : List rv_E) (X : List rv_C) (cn sn : Nat) (o : rv_O) : Bool := match o.2.2.1, res with
  | some t, some a => rv_ansq n0 S E t a o.2.1 && (match rv_m1F S E n0 (n0, []) t a with
    | some q => rv_retG RL K o n0 q S E X cn sn
    | none => false)
  | none, none => rv_retG RL K o n0 (n0, []) S E X cn sn
  | _, _ => false
theorem rv_ret1G_ok {RL : List rv_Rl} {K : rv_K} {res : Option rv_V} {E : List rv_E} {X : List rv_C} {cn sn : Nat} {o : rv_O} (h : rv_ret1G RL K K.1.length res (rv_sfx 24 E) E X cn sn o = true) : rv_ret1 RL K res E X cn sn o = true := by
  unfold rv_ret1G at h
  unfold rv_ret1
  have hS : ∀ i, rv_gt (rv_sfx 24 E) E i = E[i]? := rv_gt_eq 24 E
  obtain ⟨q1, q2⟩ := rv_q0 K.1.length
  cases ho : o.2.2.1 with
  | none =>
    cases res with
    | some a => rw [ho] at h; cases h
    | none =>
      rw [ho] at h
      dsimp only at h ⊢
      rw [← q2]
      exact rv_retG_ok q1 h
  | some t =>
    cases res with
    | none => rw [ho] at h; cases h
    | some a =>
      rw [ho] at h
      dsimp only at h ⊢
      rw [Bool.and_eq_true] at h
      have h := h.2
      cases h1 : rv_m1F (rv_sfx 24 E) E K.1.length (K.1.length, []) t a with
      | none => rw [h1] at h; cases h
      | some q =>
        rw [h1] at h
        obtain ⟨a1, a2⟩ := rv_m1F_ok hS q1 h1
        rw [← q2, a1]
        exact rv_retG_ok a2 h
noncomputable def rv_retF (RL : List rv_Rl) (K : rv_K) (res : Option rv_V) (S : List (List rv_E)) (E : List rv_E) (X : List rv_C) (cn sn : Nat) : Bool := rv_fn K.1.length (fun n0 => K.2.2.2.1.any (rv_ret1G RL K n0 res S E X cn sn))
theorem rv_retF_ok {RL : List rv_Rl} {K : rv_K} {res : Option rv_V} {E : List rv_E} {X : List rv_C} {cn sn : Nat} (h : rv_retF RL K res (rv_sfx 24 E) E X cn sn = true) : rv_ret RL K res E X cn sn = true := by
  unfold rv_retF at h
  rw [rv_fn_eq] at h
  obtain ⟨o, h1, h2⟩ := List.any_eq_true.mp h
  exact List.any_eq_true.mpr ⟨o, h1, rv_ret1G_ok h2⟩
noncomputable def rv_endF (RL : List rv_Rl) (K : rv_K) (rt : Nat) (i : Instr) (E : List rv_E) (St : List rv_V) (X : List rv_C) (cn sn : Nat) : Bool := match i, St with
  | .return_, [] => Nat.beq rt 0 && rv_retF RL K none (rv_sfx 24 E) E X cn sn
  | .ireturn, [(0, x)] => (Nat.beq rt 1 || ((Nat.beq rt 2 && rv_in01 E x) || ((Nat.beq rt 4 && rv_bd1 E x 0 255) || (Nat.beq rt 5 && rv_bd1 E x 0 0)))) && rv_retF RL K (some (0, x)) (rv_sfx 24 E) E X cn sn
  | .lreturn, [(1, x)] => Nat.beq rt 3 && rv_retF RL K (some (1, x)) (rv_sfx 24 E) E X cn sn
  | _, _ => false
theorem rv_endF_ok {RL : List rv_Rl} {K : rv_K} {rt : Nat} {i : Instr} {E : List rv_E} {St : List rv_V} {X : List rv_C} {cn sn : Nat} (h : rv_endF RL K rt i E St X cn sn = true) : rv_end RL K rt i E St X cn sn = true := by
  unfold rv_endF at h
  split at h
  · rw [Bool.and_eq_true] at h
    show (Nat.beq rt 0 && rv_ret RL K none E X cn sn) = true
    rw [Bool.and_eq_true]
    exact ⟨h.1, rv_retF_ok h.2⟩
  · rename_i x
    rw [Bool.and_eq_true] at h
    show ((Nat.beq rt 1 || ((Nat.beq rt 2 && rv_in01 E x) || ((Nat.beq rt 4 && rv_bd1 E x 0 255) || (Nat.beq rt 5 && rv_bd1 E x 0 0)))) && rv_ret RL K (some (0, x)) E X cn sn) = true
    rw [Bool.and_eq_true]
    exact ⟨h.1, rv_retF_ok h.2⟩
  · rename_i x
    rw [Bool.and_eq_true] at h
    show (Nat.beq rt 3 && rv_ret RL K (some (1, x)) E X cn sn) = true
    rw [Bool.and_eq_true]
    exact ⟨h.1, rv_retF_ok h.2⟩
  · cases h
/-! arrivals -/
noncomputable def rv_quick (S : List (List rv_E)) (E : List rv_E) (src : List (Nat × rv_V)) (hE : List rv_E) (tl : List (Nat × rv_V)) : Bool := match tl with
  | [] => true
  | z :: r => (bif Nat.beq z.2.1 0 then (match rv_lk src z.1, rv_gt (rv_sfx 24 hE) hE z.2.2 with
    | some s, some b => (match rv_gt S E s.2 with
      | some e => rv_le b.1 e.1 && rv_le e.2.1 b.2.1
      | none => false)
    | _, _ => false) else true) && rv_quick S E src hE r
noncomputable def rv_arrY (RL : List rv_Rl) (rk0 : Option (List rv_Rk)) (h : rv_Hd) (N : rv_N) (S : List (List rv_E)) (σ : List Nat) : Bool := rv_fp (rv_fl N.2.1) (fun FL => rv_mEF RL S N.2.1 FL (rv_sfx 24 σ) σ 0 h.1 σ) && (Nat.ble N.2.2.2.2.2.1 h.2.2.2.2.1 && (Nat.ble N.2.2.2.2.2.2 h.2.2.2.2.2.1 && (match rk0 with
        | none => true
        | some r => rv_lx RL N.2.1 σ r h.2.2.2.2.2.2)))
noncomputable def rv_arrG (RL : List rv_Rl) (pn : Nat) (rk0 : Option (List rv_Rk)) (h : rv_Hd) (N : rv_N) (S : List (List rv_E)) : Bool := rv_quick S N.2.1 N.2.2.1 h.1 h.2.1 && (match rv_mLF S N.2.1 pn N.2.2.1 (pn, []) h.2.1 with
  | some q1 => match rv_mVF S N.2.1 pn q1 h.2.2.1 N.2.2.2.1 with
    | some q2 => match rv_mXF S N.2.1 pn q2 h.2.2.2.1 N.2.2.2.2.1 with
      | some q => rv_fp (rv_qs pn q) (fun σ => rv_arrY RL rk0 h N S σ)
      | none => false
    | none => false
  | none => false)
theorem rv_arrG_ok {RL : List rv_Rl} {pn : Nat} {rk0 : Option (List rv_Rk)} {h : rv_Hd} {N : rv_N} (ha : rv_arrG RL pn rk0 h N (rv_sfx 24 N.2.1) = true) : rv_arr RL pn rk0 h N = true := by
  unfold rv_arrG at ha
  rw [Bool.and_eq_true] at ha
  have ha := ha.2
  unfold rv_arr
  have hS : ∀ i, rv_gt (rv_sfx 24 N.2.1) N.2.1 i = N.2.1[i]? := rv_gt_eq 24 N.2.1
  obtain ⟨z1, z2⟩ := rv_q0 pn
  rw [← z2]
  cases h1 : rv_mLF (rv_sfx 24 N.2.1) N.2.1 pn N.2.2.1 (pn, []) h.2.1 with
  | none => rw [h1] at ha; cases ha
  | some q1 =>
    rw [h1] at ha
    dsimp only at ha
    obtain ⟨a1, a2⟩ := rv_mLF_ok hS z1 h1
    rw [a1]
    dsimp only
    cases h2 : rv_mVF (rv_sfx 24 N.2.1) N.2.1 pn q1 h.2.2.1 N.2.2.2.1 with
    | none => rw [h2] at ha; cases ha
    | some q2 =>
      rw [h2] at ha
      dsimp only at ha
      obtain ⟨b1, b2⟩ := rv_mVF_ok hS a2 h2
      rw [b1]
      dsimp only
      cases h3 : rv_mXF (rv_sfx 24 N.2.1) N.2.1 pn q2 h.2.2.2.1 N.2.2.2.2.1 with
      | none => rw [h3] at ha; cases ha
      | some q =>
        rw [h3] at ha
        dsimp only at ha
        obtain ⟨c1, c2⟩ := rv_mXF_ok hS b2 h3
        rw [c1]
        dsimp only
        rw [rv_fp_eq] at ha
        unfold rv_arrY at ha
        have hSS : ∀ i, rv_gt (rv_sfx 24 (rv_qs pn q)) (rv_qs pn q) i = (rv_qs pn q)[i]? := rv_gt_eq 24 _
        rw [rv_fp_eq, rv_mEF_eq hS hSS] at ha
        exact ha
/-! directives -/
noncomputable def rv_dirF1 (RL : List rv_Rl) (E : List rv_E) (x : Nat) (up : Bool) (E1 : List rv_E) (n : Nat) : Option (Option (List rv_E)) := bif up then (bif rv_fp (rv_fl E) (fun FL => rv_derF RL (rv_sfx 24 E1) E1 FL 3 (2, [x, n])) then some (rv_cmp 1 E1 x n) else none)
    else (bif rv_fp (rv_fl E) (fun FL => rv_derF RL (rv_sfx 24 E1) E1 FL 3 (2, [n, x])) then some (rv_cmp 1 E1 n x) else none)
noncomputable def rv_dirEF (RL : List rv_Rl) (E : List rv_E) (x : Nat) (up : Bool) (k : Int) : Option (Option (List rv_E)) := match rv_nth E x with
  | some _ => rv_fn E.length (fun n => rv_fp (E ++ [(k, k, n, 0, [])]) (fun E1 => rv_dirF1 RL E x up E1 n))
  | none => none
theorem rv_dirEF_eq (RL : List rv_Rl) (E : List rv_E) (x : Nat) (up : Bool) (k : Int) : rv_dirEF RL E x up k = rv_dirE RL E x up k := by
  unfold rv_dirEF rv_dirE rv_dirF1
  rw [rv_nth_eq, rv_fn_eq, rv_fp_eq, rv_fp_eq, rv_fp_eq, rv_derF_eq (rv_gt_eq 24 _)]
  rfl
noncomputable def rv_dir2 (RL : List rv_Rl) (N : rv_N) (d : rv_Dt) : Option rv_N := bif Nat.beq d.1 N.1 then (bif Nat.beq d.2.1.1 7 then some (rv_intro N d.2.1.2.1 d.2.1.2.2) else match rv_src N d.2.1 with
  | some x => match rv_dirEF RL N.2.1 x d.2.2.1 d.2.2.2 with
    | some (some E2) => some (N.1, E2, N.2.2)
    | some none => none
    | none => some N
  | none => some N) else some N
theorem rv_dir2_eq (RL : List rv_Rl) (N : rv_N) (d : rv_Dt) : rv_dir2 RL N d = rv_dir RL N d := by
  unfold rv_dir2 rv_dir
  simp only [rv_dirEF_eq]
  rfl
noncomputable def rv_dirsF (RL : List rv_Rl) (N : rv_N) (ds : List rv_Dt) : Option rv_N := match ds with
  | [] => some N
  | d :: r => match rv_dir2 RL N d with
    | some N' => rv_dirsF RL N' r
    | none => none
theorem rv_dirsF_eq (RL : List rv_Rl) : ∀ (ds : List rv_Dt) (N : rv_N), rv_dirsF RL N ds = rv_dirs RL N ds
  | [], _ => rfl
  | d :: r, N => by
    unfold rv_dirsF rv_dirs
    rw [rv_dir2_eq]
    cases rv_dir RL N d with
    | none => rfl
    | some N' => exact rv_dirsF_eq RL r N'
/-! the walk -/
noncomputable def rv_pickF (RL : List rv_Rl) (ce sl : Nat) (S : List (List rv_E)) (N : rv_N) (CT : List (Nat × rv_K)) : Option (List rv_N) := match CT with
  | [] => none
  | k :: r => bif Nat.beq k.1 N.1 then (match rv_callG RL k.2 ce sl N.1 S N.2.1 N.2.2.1 N.2.2.2.1 N.2.2.2.2.1 N.2.2.2.2.2.1 N.2.2.2.2.2.2 with
    | some Z => some Z
    | none => rv_pickF RL ce sl S N r) else rv_pickF RL ce sl S N r
theorem rv_pickF_ok {RL : List rv_Rl} {ce sl : Nat} {N : rv_N} {Z : List rv_N} : ∀ {CT : List (Nat × rv_K)}, rv_pickF RL ce sl (rv_sfx 24 N.2.1) N CT = some Z → ∃ k ∈ CT, k.1 = N.1 ∧ rv_call RL k.2 ce sl N.1 N.2.1 N.2.2.1 N.2.2.2.1 N.2.2.2.2.1 N.2.2.2.2.2.1 N.2.2.2.2.2.2 = some Z
  | [], h => by cases h
  | k :: r, h => by
    unfold rv_pickF at h
    cases h0 : Nat.beq k.1 N.1 with
    | false =>
      simp only [h0, cond_false] at h
      obtain ⟨k', h1, h2⟩ := rv_pickF_ok h
      exact ⟨k', List.mem_cons_of_mem _ h1, h2⟩
    | true =>
      simp only [h0, cond_true] at h
      split at h
      · rename_i S' hS
        have h := Option.some.inj h
        subst h
        exact ⟨k, List.mem_cons_self, Nat.eq_of_beq_eq_true h0, rv_callG_ok hS⟩
      · obtain ⟨k', h1, h2⟩ := rv_pickF_ok h
        exact ⟨k', List.mem_cons_of_mem _ h1, h2⟩
noncomputable def rv_anyG (RL : List rv_Rl) (pn : Nat) (rk0 : Option (List rv_Rk)) (N : rv_N) (S : List (List rv_E)) (HD : List (Nat × rv_Hd)) : Bool := match HD with
  | [] => false
  | h :: r => (Nat.beq h.1 N.1 && rv_arrG RL pn rk0 h.2 N S) || rv_anyG RL pn rk0 N S r
theorem rv_anyG_ok {RL : List rv_Rl} {K : rv_K} {rk0 : Option (List rv_Rk)} {N : rv_N} : ∀ {HD : List (Nat × rv_Hd)}, rv_anyG RL K.1.length rk0 N (rv_sfx 24 N.2.1) HD = true → rv_anyH RL K rk0 N HD = true
  | [], h => by cases h
  | q :: r, h => by
    unfold rv_anyG at h
    unfold rv_anyH
    rw [Bool.or_eq_true, Bool.and_eq_true] at h ⊢
    rcases h with h | h
    · exact Or.inl ⟨h.1, rv_arrG_ok h.2⟩
    · exact Or.inr (rv_anyG_ok h)
noncomputable def rv_oneF (RL : List rv_Rl) (HD : List (Nat × rv_Hd)) (K : rv_K) (rk0 : Option (List rv_Rk)) (ih : rv_N → Bool) (S : rv_N) : Bool := rv_anyG RL K.1.length rk0 S (rv_sfx 24 S.2.1) HD || ih S
noncomputable def rv_nxF (RL : List rv_Rl) (DT : List rv_Dt) (HD : List (Nat × rv_Hd)) (K : rv_K) (rk0 : Option (List rv_Rk)) (ih : rv_N → Bool) (S : rv_N) : Bool := bif rv_hasD DT S.1 then (match rv_dirs RL S DT with
  | some S' => rv_fD S' (rv_oneF RL HD K rk0 ih)
  | none => true) else rv_oneF RL HD K rk0 ih S
/-- plain spines -/
noncomputable def rv_fs2 (S : rv_N) (k : rv_N → Bool) : Bool := rv_fp S.2.1 (fun E => rv_fp S.2.2.2.2.1 (fun X => k (S.1, E, S.2.2.1, S.2.2.2.1, X, S.2.2.2.2.2)))
theorem rv_fs2_eq (S : rv_N) (k : rv_N → Bool) : rv_fs2 S k = k S := by
  unfold rv_fs2
  rw [rv_fp_eq, rv_fp_eq]
noncomputable def rv_allF (k : rv_N → Bool) (Ns : List rv_N) : Bool := match Ns with
  | [] => true
  | [S] => k S
  | S :: r => k S && rv_allF k r
theorem rv_allF_ok {k : rv_N → Bool} : ∀ {Ns : List rv_N}, rv_allF k Ns = true → ∀ S ∈ Ns, k S = true
  | [], _, S, hS => by cases hS
  | [Z], h, S, hS => by rw [List.mem_singleton.mp hS]; exact h
  | Z :: Y :: r, h, S, hS => by
    have h : (k Z && rv_allF k (Y :: r)) = true := h
    rw [Bool.and_eq_true] at h
    rcases List.mem_cons.mp hS with e | e
    · rw [e]; exact h.1
    · exact rv_allF_ok h.2 S e
def rv_noC (CT : List (Nat × rv_K)) (pc : Nat) : Bool := match CT with
  | [] => true
  | k :: r => bif Nat.beq k.1 pc then false else rv_noC r pc
noncomputable def rv_bodyF (RL : List rv_Rl) (DT : List rv_Dt) (T : rv_T) (P : rv_P) (pr : List (Nat × Instr × Nat)) (CT : List (Nat × rv_K)) (HD : List (Nat × rv_Hd)) (K : rv_K) (rt : Nat) (rk0 : Option (List rv_Rk)) (ih : rv_N → Bool) (N : rv_N) : Bool := match rv_fnd pr N.1 with
  | some q => rv_ln q.2.1 q.2.2 && (bif rv_noC CT N.1 then ((Nat.beq q.2.2 1 && rv_endF RL K rt q.2.1 N.2.1 N.2.2.2.1 N.2.2.2.2.1 N.2.2.2.2.2.1 N.2.2.2.2.2.2) || (match rv_step T P q.2.1 N.1 N.2.1 N.2.2.1 N.2.2.2.1 N.2.2.2.2.1 N.2.2.2.2.2.1 N.2.2.2.2.2.2 with
      | some Ns => rv_allF (fun S => rv_fs2 S (rv_nxF RL DT HD K rk0 ih)) Ns
      | none => false)) else (match rv_pickF RL P.2.2.2.2.1 P.2.2.2.2.2.1 (rv_sfx 24 N.2.1) N CT with
    | some Ns => rv_allF (fun S => rv_fD S (rv_nxF RL DT HD K rk0 ih)) Ns
    | none => false))
  | none => false
noncomputable def rv_segF (RL : List rv_Rl) (DT : List rv_Dt) (T : rv_T) (P : rv_P) (pr : List (Nat × Instr × Nat)) (CT : List (Nat × rv_K)) (HD : List (Nat × rv_Hd)) (K : rv_K) (rt : Nat) (rk0 : Option (List rv_Rk)) (f : Nat) : rv_N → Bool := Nat.rec (fun _ => false) (fun _ ih N => rv_bodyF RL DT T P pr CT HD K rt rk0 ih N) f
section
variable {p : Program} {l : Launch} {e : Env} {R : Room} {s : State} {m : MethodId} {args : Array Value} {below : List Frame} {meth : Method} {c : Code} {D : va_G} {cl : List vw_C} {A : Nat → Prop} {cy : Nat → ClassId} {nL : Nat}
variable {cc : ByteArray} {own : String} {Ts : List Jvm.Cond} {K : rv_K} {g0 gr : rv_G} {ret : Option FieldType} {T : rv_T} {P : rv_P} {pr : List (Nat × Instr × Nat)} {CT : List (Nat × rv_K)} {HD : List (Nat × rv_Hd)} {rk0 : Option (List rv_Rk)} {RL : List rv_Rl} {DT : List rv_Dt} {st : Nat → Nat}
theorem rv_segF_ok (hRL : ∀ r ∈ RL, rv_RlOk r) (hwfK : rv_wfK K = true) (hst : g0.2.2.2 = st) (Cx : rv_Cx p s m args c cc own nL Ts D cl cy A st) (hT : rv_TOk own Ts cl T) (hP : rv_POk R meth nL P) (hr : meth.sig.returnType = ret) (hlocks : meth.locks = false) (hpr : ∀ q ∈ pr, decode cc q.1 = .ok (q.2.1, q.2.2))
    (hCT : ∀ q ∈ CT, rv_wfK q.2 = true ∧ rv_CallOk p l e R s m args below meth c (MQ below (rv_Qc D cl cy g0 K A) args s K.2.2.2.2.1 K.2.2.2.2.2 A) D cl A cy nL st q.1 q.2)
    (hHD : ∀ q ∈ HD, rv_wfH K.1.length K.2.2.1.length q.2 = true ∧ rv_HOk p l e R s m args below meth c (MQ below (rv_Qc D cl cy g0 K A) args s K.2.2.2.2.1 K.2.2.2.2.2 A) D cl A cy nL (rv_ho g0 K) (rk0.map (fun r => r.map (rv_rk gr))) q) :
    ∀ (f : Nat) (N : rv_N), rv_segF RL DT T P pr CT HD K (rv_rt ret) rk0 f N = true → rv_OkN p l e R s m args below meth c (MQ below (rv_Qc D cl cy g0 K A) args s K.2.2.2.2.1 K.2.2.2.2.2 A) D cl A cy nL ((rv_ho g0 K).1 ++ rv_rf gr rk0, (rv_ho g0 K).2) N
  | 0, N, h => by cases h
  | f + 1, N, h => by
    have ih := rv_segF_ok hRL hwfK hst Cx hT hP hr hlocks hpr hCT hHD f
    have nxt : ∀ S : rv_N, rv_nxF RL DT HD K rk0 (rv_segF RL DT T P pr CT HD K (rv_rt ret) rk0 f) S = true → rv_OkN p l e R s m args below meth c (MQ below (rv_Qc D cl cy g0 K A) args s K.2.2.2.2.1 K.2.2.2.2.2 A) D cl A cy nL ((rv_ho g0 K).1 ++ rv_rf gr rk0, (rv_ho g0 K).2) S := by
      intro S hS
      have one : ∀ S : rv_N, rv_oneF RL HD K rk0 (rv_segF RL DT T P pr CT HD K (rv_rt ret) rk0 f) S = true → rv_OkN p l e R s m args below meth c (MQ below (rv_Qc D cl cy g0 K A) args s K.2.2.2.2.1 K.2.2.2.2.2 A) D cl A cy nL ((rv_ho g0 K).1 ++ rv_rf gr rk0, (rv_ho g0 K).2) S := by
        intro S hS
        unfold rv_oneF at hS
        rw [Bool.or_eq_true] at hS
        rcases hS with hS | hS
        · obtain ⟨hd, f1, f2, f3⟩ := rv_anyH_ok (rv_anyG_ok hS)
          obtain ⟨g1, g2⟩ := hHD hd f1
          exact rv_arr_ok hRL g1 g2 f2 f3
        · exact ih S hS
      unfold rv_nxF at hS
      cases hh : rv_hasD DT S.1 with
      | false =>
        rw [hh] at hS
        exact one S hS
      | true =>
        rw [hh] at hS
        simp only [cond_true] at hS
        refine rv_dirs_ok (ds := DT) hRL fun N' hN => ?_
        rw [hN] at hS
        dsimp only at hS
        rw [rv_fD_eq] at hS
        exact one N' hS
    have h : rv_bodyF RL DT T P pr CT HD K (rv_rt ret) rk0 (rv_segF RL DT T P pr CT HD K (rv_rt ret) rk0 f) N = true := h
    unfold rv_bodyF at h
    split at h
    · rename_i q hq
      obtain ⟨f1, f2⟩ := rv_fnd_ok hq
      rw [Bool.and_eq_true] at h
      obtain ⟨h1, h2⟩ := h
      have hd := hpr q f1
      rw [f2] at hd
      cases hc : rv_noC CT N.1 with
      | true =>
        rw [hc] at h2
        simp only [cond_true] at h2
        rw [Bool.or_eq_true, Bool.and_eq_true] at h2
        rcases h2 with ⟨h2, h3⟩ | h2
        · rw [Nat.eq_of_beq_eq_true h2] at hd
          exact rv_end_ok hRL hwfK Cx hr hlocks (fun z hz => List.mem_append_left _ hz) rfl hd (rv_endF_ok h3)
        · split at h2
          · rename_i Ns hNs
            exact rv_step_ok Cx hst hT hP hd h1 hNs (fun S hS => nxt S (by
              have h4 : rv_fs2 S (rv_nxF RL DT HD K rk0 (rv_segF RL DT T P pr CT HD K (rv_rt ret) rk0 f)) = true := rv_allF_ok h2 S hS
              rw [rv_fs2_eq] at h4
              exact h4))
          · cases h2
      | false =>
        rw [hc] at h2
        simp only [cond_false] at h2
        split at h2
        · rename_i Ns hS
          obtain ⟨k, c1, c2, c5⟩ := rv_pickF_ok hS
          obtain ⟨c3, c4⟩ := hCT k c1
          rw [c2] at c4
          have P4 := hP.2.2.2.1
          have P5 := hP.2.2.2.2.1
          rw [← P4, ← P5] at c5
          exact rv_call_ok hRL c3 hst c4 c5 (fun S hS => nxt S (by
            have h4 : rv_fD S (rv_nxF RL DT HD K rk0 (rv_segF RL DT T P pr CT HD K (rv_rt ret) rk0 f)) = true := rv_allF_ok h2 S hS
            rw [rv_fD_eq] at h4
            exact h4))
        · cases h2
    · cases h
/-- all heads: by their ranks -/
theorem rv_headsF_ok (hRL : ∀ r ∈ RL, rv_RlOk r) (hwfK : rv_wfK K = true) (hst : g0.2.2.2 = st) (Cx : rv_Cx p s m args c cc own nL Ts D cl cy A st) (hT : rv_TOk own Ts cl T) (hP : rv_POk R meth nL P) (hr : meth.sig.returnType = ret) (hlocks : meth.locks = false) (hpr : ∀ q ∈ pr, decode cc q.1 = .ok (q.2.1, q.2.2))
    (hCT : ∀ q ∈ CT, rv_wfK q.2 = true ∧ rv_CallOk p l e R s m args below meth c (MQ below (rv_Qc D cl cy g0 K A) args s K.2.2.2.2.1 K.2.2.2.2.2 A) D cl A cy nL st q.1 q.2) {fu : Nat}
    (hHD : HD.all (fun q => rv_wfH K.1.length K.2.2.1.length q.2 && rv_segF RL DT T P pr CT HD K (rv_rt ret) (some q.2.2.2.2.2.2.2) fu (q.1, q.2.1, q.2.2.1, q.2.2.2.1, q.2.2.2.2.1, q.2.2.2.2.2.1, q.2.2.2.2.2.2.1)) = true) :
    ∀ q ∈ HD, rv_HOk p l e R s m args below meth c (MQ below (rv_Qc D cl cy g0 K A) args s K.2.2.2.2.1 K.2.2.2.2.2 A) D cl A cy nL (rv_ho g0 K) none q := by
  have main : ∀ (n : Nat) (v : List Nat), Acc rv_ll v → v.length = n → ∀ q ∈ HD, ∀ (g : rv_G) (ls : Array Slot) (H : Heap) (locs : List Loc), rv_R D cl A s.heap cy nL (rv_ho g0 K) g q.2.1 q.2.2.1 q.2.2.2.1 q.2.2.2.2.1 ls H locs → q.2.2.2.2.2.2.2.map (rv_rk g) = v → W p l e R s m args below meth c H locs q.2.2.2.2.2.1 q.2.2.2.2.2.2.1 (MQ below (rv_Qc D cl cy g0 K A) args s K.2.2.2.2.1 K.2.2.2.2.2 A) (F0 m q.1 ls (q.2.2.2.1.map (rv_v g))) := by
    intro n v hacc
    induction hacc with
    | intro v _ ih =>
      intro hlen q hq g ls H locs RR hv
      have hq1 := List.all_eq_true.mp hHD q hq
      rw [Bool.and_eq_true] at hq1
      have hwf := hq1.1
      unfold rv_wfH at hwf
      rw [Bool.and_eq_true, Bool.and_eq_true, Bool.and_eq_true, Bool.and_eq_true, Bool.and_eq_true, Bool.and_eq_true] at hwf
      have hids := hwf.2.2.2.2.2.2
      have hl2 : ∀ (x y : List Nat), rv_ll x y → x.length = y.length := by
        intro x
        induction x with
        | nil => intro y hy; cases y <;> cases hy
        | cons c cs ihc =>
          intro y hy
          cases y with
          | nil => cases hy
          | cons d ds =>
            rcases hy with ⟨-, z⟩ | ⟨-, z⟩
            · simp [z]
            · simp [ihc ds z]
      have RR2 : rv_R D cl A s.heap cy nL ((rv_ho g0 K).1 ++ rv_rf g (some q.2.2.2.2.2.2.2), (rv_ho g0 K).2) g q.2.1 q.2.2.1 q.2.2.2.1 q.2.2.2.2.1 ls H locs := by
        obtain ⟨a1, a2, a3, a4, a5⟩ := RR
        refine ⟨a1, a2, a3, ⟨fun z hz => ?_, a4.2⟩, a5⟩
        rcases List.mem_append.mp hz with h | h
        · exact a4.1 z h
        · obtain ⟨o, ho, rfl⟩ := List.mem_map.mp h
          have := List.all_eq_true.mp hids o (List.mem_filter.mp ho).1
          rw [Nat.ble_eq] at this
          exact ⟨by show o.2.2 < _; omega, rfl⟩
      refine rv_segF_ok (gr := g) (rk0 := some q.2.2.2.2.2.2.2) hRL hwfK hst Cx hT hP hr hlocks hpr hCT (fun z hz => ?_) fu _ hq1.2 g ls H locs RR2
      have hz1 := List.all_eq_true.mp hHD z hz
      rw [Bool.and_eq_true] at hz1
      refine ⟨hz1.1, fun g' ls' H' locs' R' hlim => ?_⟩
      have h7 : rv_ll (z.2.2.2.2.2.2.2.map (rv_rk g')) (q.2.2.2.2.2.2.2.map (rv_rk g)) := hlim _ rfl
      rw [hv] at h7
      exact ih _ h7 (by rw [hl2 _ _ h7]; exact hlen) z hz g' ls' H' locs' R' rfl
  intro q hq g ls H locs RR _
  exact main _ _ (rv_ll_acc _ _ rfl) rfl q hq g ls H locs RR rfl
end
