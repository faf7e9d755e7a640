/-! rows: fields and arrays on the machine -/
section
variable {p : Program} {l : Launch} {e : Env} {R : Room} {s : State} {m : MethodId} {args : Array Value} {below : List Frame} {meth : Method} {c : Code} {Q : State → Prop} {D : va_G} {cl : List vw_C} {A : Nat → Prop} {cy : Nat → ClassId} {nL : Nat} {ρ : rv_Ho}
variable {cc : ByteArray} {own : String} {Ts : List Jvm.Cond} {pc pc' : Nat} {E : List rv_E} {L : List (Nat × rv_V)} {K r : List rv_V} {X : List rv_C} {cn sn : Nat} {g : rv_G} {ls : Array Slot} {H : Heap} {locs : List Loc} {st : Nat → Nat}
theorem rv_o_get (Cx : rv_Cx p s m args c cc own nL Ts D cl cy A st) {fd : rv_Fd} (hF : rv_F1 own Ts cl fd) (hdg : decode cc pc = .ok (.getfield fd.1, 3)) {q : Nat} {fs : List rv_V} {a : rv_V} (hq : X[q]? = some (.inl (fd.2.1, fs))) (ha : fs[fd.2.2.1]? = some a)
    (ok : rv_Ok p l e R s m args below meth c Q D cl A cy nL ρ (pc + 3) E L (a :: r) X cn sn) : rv_Ok p l e R s m args below meth c Q D cl A cy nL ρ pc E L ((2, q) :: r) X cn sn := by
  obtain ⟨hx, hbb, -, hown, hts, hK, -⟩ := Cx
  obtain ⟨C, T, N, ty0, f1, f2, f3, f4, f5, f6, -⟩ := hF
  intro g ls H locs RR
  refine va_get (D := D) (cl := cl) (ci := fd.2.1) (C := C) (T := T) (N := N) (v := rv_v g a) hx hbb hts f3 hown hK RR.2.2.2.2.2.1 q (rv_w_at hq) f1 fd.2.2.1 f2 (hts _ f6) (fun _ h9 => h9) ?_ hdg (ok g ls H locs (RR.sK fun b hb => ?_))
  · rw [List.getElem?_map, ha]; rfl
  · rcases List.mem_cons.mp hb with h | h
    · rw [h]
      have hc := RR.2.2.1.2.2.2 _ (List.mem_of_getElem? hq)
      exact hc a (List.mem_of_getElem? ha)
    · exact RR.kK b (List.mem_cons_of_mem _ h)
theorem rv_R.sX (RR : rv_R D cl A s.heap cy nL ρ g E L K X ls H locs) {q : Nat} {o o' : Nat × List rv_V} {H' : Heap} {locs' : List Loc} (hq : X[q]? = some (.inl o)) (h1 : ∀ a ∈ o'.2, rv_ok E.length X.length a) (hP : va_P D cl ((rv_w cy g X).set q (rv_c cy g q (.inl o'))) H') (hD : va_D A ((rv_w cy g X).set q (rv_c cy g q (.inl o')))) (hS : va_S A s.heap H' locs') : rv_R D cl A s.heap cy nL ρ g E L K (X.set q (.inl o')) ls H' locs' := by
  obtain ⟨he, hx, ⟨w1, w2, w3, w4⟩, hh, hl, -, -, -⟩ := RR
  have hql : q < X.length := (List.getElem?_eq_some_iff.mp hq).1
  refine ⟨he, ?_, ⟨w1, ?_, ?_, ?_⟩, by rw [List.length_set]; exact hh, hl, ?_, ?_, hS⟩
  · intro k a hk
    by_cases hkq : k = q
    · subst hkq
      rw [List.getElem?_set_self hql] at hk
      cases hk
    · rw [List.getElem?_set_ne (Ne.symm hkq)] at hk
      exact hx k a hk
  · rw [List.length_set]; exact w2
  · rw [List.length_set]; exact w3
  · rw [List.length_set]
    intro cd hc
    rcases List.mem_or_eq_of_mem_set hc with h | h
    · exact w4 cd h
    · rw [h]; exact h1
  · rw [rv_w_set]; exact hP
  · rw [rv_w_set]; exact hD
theorem rv_o_put (Cx : rv_Cx p s m args c cc own nL Ts D cl cy A st) {fd : rv_Fd} (hF : rv_F1 own Ts cl fd) (hini : fd.2.2.2.2 = true → meth.name = "<init>") (hdg : decode cc pc = .ok (.putfield fd.1, 3)) {q : Nat} {fs : List rv_V} {a : rv_V} (hq : X[q]? = some (.inl (fd.2.1, fs))) (hl : fd.2.2.1 < fs.length) (hfit : rv_fit E fd.2.2.2.1 a = true)
    (ok : rv_Ok p l e R s m args below meth c Q D cl A cy nL ρ (pc + 3) E L r (X.set q (.inl (fd.2.1, fs.set fd.2.2.1 a))) cn sn) : rv_Ok p l e R s m args below meth c Q D cl A cy nL ρ pc E L (a :: (2, q) :: r) X cn sn := by
  obtain ⟨hx, hbb, -, hown, hts, hK, -⟩ := Cx
  obtain ⟨C, T, N, ty0, f1, f2, f3, f4, f5, f6, f7 | ⟨f7, f8, f9⟩⟩ := hF
  · rw [f7] at hfit
    cases hfit
  intro g ls H locs RR
  rw [← f8] at hfit
  obtain ⟨n1, n2⟩ := rv_fit_ok RR.1 hfit
  have hkk : ∀ (H1 : Heap) (locs1 : List Loc), va_P D cl ((rv_w cy g X).set q (g.2.1 q, .inr (fd.2.1, (fs.map (rv_v g)).set fd.2.2.1 (rv_v g a)))) H1 → va_D A ((rv_w cy g X).set q (g.2.1 q, .inr (fd.2.1, (fs.map (rv_v g)).set fd.2.2.1 (rv_v g a)))) → va_S A s.heap H1 locs1 → W p l e R s m args below meth c H1 locs1 cn sn Q (F0 m (pc + 3) ls (r.map (rv_v g))) := by
    intro H1 locs1 hP hD hS
    have e1 : rv_c cy g q (.inl (fd.2.1, fs.set fd.2.2.1 a)) = (g.2.1 q, .inr (fd.2.1, (fs.map (rv_v g)).set fd.2.2.1 (rv_v g a))) := by
      show (g.2.1 q, Sum.inr (fd.2.1, (fs.set fd.2.2.1 a).map (rv_v g))) = _
      rw [List.map_set]
    rw [← e1] at hP hD
    refine ok g ls H1 locs1 ((RR.sK (K' := r) fun b hb => RR.kK b (List.mem_cons_of_mem _ (List.mem_cons_of_mem _ hb))).sX hq (fun b hb => ?_) hP hD hS)
    rcases List.mem_or_eq_of_mem_set hb with h | h
    · exact RR.2.2.1.2.2.2 _ (List.mem_of_getElem? hq) b h
    · rw [h]; exact RR.kK a List.mem_cons_self
  have hlm : fd.2.2.1 < (fs.map (rv_v g)).length := by rw [List.length_map]; exact hl
  show W p l e R s m args below meth c H locs cn sn Q (F0 m pc ls (rv_v g a :: .ref (g.2.1 q) :: r.map (rv_v g)))
  cases hfin : fd.2.2.2.2 with
  | false => exact va_put (D := D) (cl := cl) (ci := fd.2.1) (C := C) (T := T) (N := N) hx hbb hts f3 ty0 f4 f5 hown hK RR.2.2.2.2.2.1 RR.2.2.2.2.2.2.1 RR.2.2.2.2.2.2.2 q (rv_w_at hq) f1 fd.2.2.1 f2 (hts _ f6) (fun _ h9 => h9) (by rw [f7]; exact hfin) (f4 _ f2) n1 n2 hlm hdg hkk
  | true => exact va_putF (D := D) (cl := cl) (ci := fd.2.1) (C := C) (T := T) (N := N) hx hbb hts f3 ty0 f4 f5 hown hK RR.2.2.2.2.2.1 RR.2.2.2.2.2.2.1 RR.2.2.2.2.2.2.2 q (rv_w_at hq) f1 fd.2.2.1 f2 (hts _ f6) (fun _ h9 => h9) (by rw [f7]; exact hfin) (hini hfin) (f9 hfin) (f4 _ f2) n1 n2 hlm hdg hkk
/-- an element of an array -/
theorem rv_ld (RR : rv_R D cl A s.heap cy nL ρ g E L K X ls H locs) (hr : ∀ a ∈ r, rv_ok E.length X.length a) {q i0 : Nat} (hi0 : i0 < E.length) {a : rv_Ar} (hq : X[q]? = some (.inr a)) {ei : rv_E} (h1 : ei.1 ≤ g.1 i0) (h2 : g.1 i0 ≤ ei.2.1) {o : Nat ⊕ (Int × Int)} (ho : rv_rd E a ei = some o) {k : Nat} (hk : k < 2)
    (ok : match o with
      | .inl i => rv_Ok p l e R s m args below meth c Q D cl A cy nL ρ pc' (E ++ [(0, 0, E.length, 0, [(5, [i, i0, a.2.2.2.2.2])])]) L ((k, i) :: r) X cn sn
      | .inr h => rv_Ok p l e R s m args below meth c Q D cl A cy nL ρ pc' (E ++ [(h.1, h.2, E.length, 0, [(5, [E.length, i0, a.2.2.2.2.2])])]) L ((k, E.length) :: r) X cn sn) : W p l e R s m args below meth c H locs cn sn Q (F0 m pc' ls (rv_v (rv_up g E.length (g.2.2.1 a.2.2.2.2.2 (g.1 i0).toNat) (fun _ => 0)) (k, E.length) :: r.map (rv_v g))) := by
  have hs := rv_rd_ok RR.1 (RR.2.1 q a hq) h1 h2 ho
  have hca : a.2.2.2.2.2 < E.length := (RR.2.2.1.2.2.2 _ (List.mem_of_getElem? hq)).2
  cases o with
  | inr h =>
    refine rv_push RR hr hs.1 hs.2 (Or.inl ⟨rfl, rfl⟩) (fun q hq => ?_) hk ok
    rw [List.mem_singleton.mp hq]
    refine ⟨fun j hj => ?_, ?_⟩
    · simp only [List.mem_cons, List.not_mem_nil, or_false] at hj
      omega
    · have hag := rv_up_ag g E.length 0 (g.2.2.1 a.2.2.2.2.2 (g.1 i0).toNat) (fun _ => 0)
      show (rv_up g E.length (g.2.2.1 a.2.2.2.2.2 (g.1 i0).toNat) (fun _ => 0)).1 E.length = (rv_up g E.length (g.2.2.1 a.2.2.2.2.2 (g.1 i0).toNat) (fun _ => 0)).2.2.1 a.2.2.2.2.2 ((rv_up g E.length (g.2.2.1 a.2.2.2.2.2 (g.1 i0).toNat) (fun _ => 0)).1 i0).toNat
      rw [rv_up_self, hag.1 i0 hi0, hag.2.2.1 _ hca]
  | inl i =>
    obtain ⟨e1, j, hj⟩ := hs
    have hi : i < E.length := (RR.2.2.1.2.2.2 _ (List.mem_of_getElem? hq)).1 (j, i) hj
    have hr2 : ∀ b ∈ (k, i) :: r, rv_ok E.length X.length b := fun b hb => by
      rcases List.mem_cons.mp hb with h | h
      · rw [h]; exact ⟨fun _ => hi, fun q => by have q : k = 2 := q; omega⟩
      · exact hr b h
    have hag := rv_up_ag g E.length X.length 0 (fun _ => 0)
    have h3 := ok _ ls H locs ((RR.sK hr2).fresh (z := 0) (lo := 0) (hi := 0) (base := E.length) (off := 0) (f := fun _ => 0) (fs := [(5, [i, i0, a.2.2.2.2.2])]) (Int.le_refl _) (Int.le_refl _) (Or.inl ⟨rfl, rfl⟩) (fun z hz => by
      rw [List.mem_singleton.mp hz]
      refine ⟨fun j hj => ?_, ?_⟩
      · simp only [List.mem_cons, List.not_mem_nil, or_false] at hj
        omega
      · show (rv_up g E.length 0 (fun _ => 0)).1 i = (rv_up g E.length 0 (fun _ => 0)).2.2.1 a.2.2.2.2.2 ((rv_up g E.length 0 (fun _ => 0)).1 i0).toNat
        rw [hag.1 i hi, hag.1 i0 hi0, hag.2.2.1 _ hca]
        exact e1.symm))
    rw [rv_K_ag hag hr2] at h3
    have e2 : rv_v (rv_up g E.length (g.2.2.1 a.2.2.2.2.2 (g.1 i0).toNat) (fun _ => 0)) (k, E.length) = rv_v g (k, i) := by
      have hu : (rv_up g E.length (g.2.2.1 a.2.2.2.2.2 (g.1 i0).toNat) (fun _ => 0)).1 E.length = g.1 i := by rw [rv_up_self]; exact e1
      match k, hk with
      | 0, _ => show Value.int (Int32.ofInt _) = Value.int (Int32.ofInt _); rw [hu]
      | 1, _ => show Value.long (Int64.ofInt _) = Value.long (Int64.ofInt _); rw [hu]
    rw [e2]
    exact h3
def rv_ak (i : Instr) (t : Nat) : Bool := match i with
  | .iaload => Nat.beq t 1
  | .baload => Nat.beq t 0 || Nat.beq t 3
  | .laload => Nat.beq t 2
  | _ => false
theorem rv_o_ald (Cx : rv_Cx p s m args c cc own nL Ts D cl cy A st) {ins : Instr} (hdg : decode cc pc = .ok (ins, 1)) {q i : Nat} {a : rv_Ar} {ei : rv_E} (hq : X[q]? = some (.inr a)) (hi : E[i]? = some ei) (h1 : rv_idx ei a.2.1 = true) (h2 : rv_ak ins a.1 = true) {o : Nat ⊕ (Int × Int)} (ho : rv_rd E a ei = some o)
    (ok : match o with
      | .inl j => rv_Ok p l e R s m args below meth c Q D cl A cy nL ρ (pc + 1) (E ++ [(0, 0, E.length, 0, [(5, [j, i, a.2.2.2.2.2])])]) L (((bif Nat.beq a.1 2 then 1 else 0), j) :: r) X cn sn
      | .inr h => rv_Ok p l e R s m args below meth c Q D cl A cy nL ρ (pc + 1) (E ++ [(h.1, h.2, E.length, 0, [(5, [E.length, i, a.2.2.2.2.2])])]) L (((bif Nat.beq a.1 2 then 1 else 0), E.length) :: r) X cn sn) : rv_Ok p l e R s m args below meth c Q D cl A cy nL ρ pc E L ((0, i) :: (2, q) :: r) X cn sn := by
  obtain ⟨hx, hbb, -, hown, hts, hK, -⟩ := Cx
  intro g ls H locs RR
  obtain ⟨b1, b2, -⟩ := RR.1 i ei hi
  obtain ⟨tz, hin, hcl⟩ := rv_idx_ok h1 b1 b2
  have hr : ∀ a ∈ r, rv_ok E.length X.length a := fun a h => RR.kK a (List.mem_cons_of_mem _ (List.mem_cons_of_mem _ h))
  have k := rv_ld (pc' := pc + 1) RR hr (List.getElem?_eq_some_iff.mp hi).1 hq b1 b2 ho (k := bif Nat.beq a.1 2 then 1 else 0) (by cases Nat.beq a.1 2 <;> decide) ok
  have hP := RR.2.2.2.2.2.1
  have hw := rv_w_at (cy := cy) (g := g) hq
  obtain ⟨t, n, lo, hi2, tr, ct⟩ := a
  show W p l e R s m args below meth c H locs cn sn Q (F0 m pc ls (.int (Int32.ofInt (g.1 i)) :: .ref (g.2.1 q) :: r.map (rv_v g)))
  have eI : rv_v (rv_up g E.length (g.2.2.1 ct (g.1 i).toNat) (fun _ => 0)) (0, E.length) = .int (Int32.ofInt (g.2.2.1 ct (Int32.ofInt (g.1 i)).toNatClampNeg)) := by
    show Value.int (Int32.ofInt ((rv_up g E.length (g.2.2.1 ct (g.1 i).toNat) (fun _ => 0)).1 E.length)) = _
    rw [rv_up_self, hcl]
  have eL : rv_v (rv_up g E.length (g.2.2.1 ct (g.1 i).toNat) (fun _ => 0)) (1, E.length) = .long (Int64.ofInt (g.2.2.1 ct (Int32.ofInt (g.1 i)).toNatClampNeg)) := by
    show Value.long (Int64.ofInt ((rv_up g E.length (g.2.2.1 ct (g.1 i).toNat) (fun _ => 0)).1 E.length)) = _
    rw [rv_up_self, hcl]
  cases ins <;> first
    | (cases h2; done)
    | (have ht : t = 1 := Nat.eq_of_beq_eq_true h2
       subst ht
       have k : W p l e R s m args below meth c H locs cn sn Q (F0 m (pc + 1) ls (rv_v (rv_up g E.length (g.2.2.1 ct (g.1 i).toNat) (fun _ => 0)) (0, E.length) :: r.map (rv_v g))) := k
       rw [eI] at k
       exact va_iald (D := D) (cl := cl) hx hbb hK hP q 1 hw rfl hin hdg k)
    | (have ht : t = 2 := Nat.eq_of_beq_eq_true h2
       subst ht
       have k : W p l e R s m args below meth c H locs cn sn Q (F0 m (pc + 1) ls (rv_v (rv_up g E.length (g.2.2.1 ct (g.1 i).toNat) (fun _ => 0)) (1, E.length) :: r.map (rv_v g))) := k
       rw [eL] at k
       exact va_lald (D := D) (cl := cl) hx hbb hK hP q 2 hw rfl hin hdg k)
    | (have h2 : (Nat.beq t 0 || Nat.beq t 3) = true := h2
       rw [Bool.or_eq_true] at h2
       rcases h2 with ht | ht
       · have ht : t = 0 := Nat.eq_of_beq_eq_true ht
         subst ht
         have k : W p l e R s m args below meth c H locs cn sn Q (F0 m (pc + 1) ls (rv_v (rv_up g E.length (g.2.2.1 ct (g.1 i).toNat) (fun _ => 0)) (0, E.length) :: r.map (rv_v g))) := k
         rw [eI] at k
         exact va_bald (D := D) (cl := cl) hx hbb hK hP q 0 hw rfl hin hdg k
       · have ht : t = 3 := Nat.eq_of_beq_eq_true ht
         subst ht
         have k : W p l e R s m args below meth c H locs cn sn Q (F0 m (pc + 1) ls (rv_v (rv_up g E.length (g.2.2.1 ct (g.1 i).toNat) (fun _ => 0)) (0, E.length) :: r.map (rv_v g))) := k
         rw [eI] at k
         exact va_zald (D := D) (cl := cl) hx hbb hK hP q 3 hw rfl hin hdg k)
/-- an array whose contents are new: a new id names them -/
theorem rv_R.sA (RR : rv_R D cl A s.heap cy nL ρ g E L K X ls H locs) {q : Nat} {a a' : rv_Ar} {f : Nat → Int} {fs : List rv_Fc} {H' : Heap} {locs' : List Loc} (hq : X[q]? = some (.inr a)) (h1 : ∀ z ∈ a'.2.2.2.2.1, z.2 < E.length) (hc : a'.2.2.2.2.2 = E.length) (h2 : rv_a (rv_up g E.length 0 f) a') (hf : rv_fs (rv_up g E.length 0 f) (E.length + 1) fs) (hP : va_P D cl ((rv_w cy g X).set q (g.2.1 q, rv_d cy (rv_up g E.length 0 f) (.inr a'))) H') (hD : va_D A ((rv_w cy g X).set q (g.2.1 q, rv_d cy (rv_up g E.length 0 f) (.inr a')))) (hS : va_S A s.heap H' locs') : rv_R D cl A s.heap cy nL ρ (rv_up g E.length 0 f) (E ++ [(0, 0, E.length, 0, fs)]) L K (X.set q (.inr a')) ls H' locs' := by
  obtain ⟨he, hx, ⟨w1, w2, w3, w4⟩, hh, hl, -, -, -⟩ := RR.fresh (f := f) (Int.le_refl 0) (Int.le_refl 0) (Or.inl ⟨rfl, rfl⟩) hf
  have hw4 := RR.2.2.1.2.2.2
  have hag := rv_up_ag g E.length X.length 0 f
  have hql : q < X.length := (List.getElem?_eq_some_iff.mp hq).1
  have hlen : (E ++ [((0 : Int), (0 : Int), E.length, (0 : Int), fs)]).length = E.length + 1 := by simp
  have ew : rv_w cy (rv_up g E.length 0 f) (X.set q (.inr a')) = (rv_w cy g X).set q (g.2.1 q, rv_d cy (rv_up g E.length 0 f) (.inr a')) := by
    rw [rv_w_set, rv_w_ag hag hw4]
    rfl
  refine ⟨he, ?_, ⟨w1, ?_, ?_, ?_⟩, by rw [List.length_set]; exact hh, hl, by rw [ew]; exact hP, by rw [ew]; exact hD, hS⟩
  · intro k b hk
    by_cases hkq : k = q
    · subst hkq
      rw [List.getElem?_set_self hql] at hk
      have hk := Sum.inr.inj (Option.some.inj hk)
      subst hk
      exact h2
    · rw [List.getElem?_set_ne (Ne.symm hkq)] at hk
      exact hx k b hk
  · rw [List.length_set]; exact w2
  · rw [List.length_set]; exact w3
  · rw [List.length_set]
    intro cd hc2
    rcases List.mem_or_eq_of_mem_set hc2 with h | h
    · exact w4 cd h
    · rw [h, hlen]
      exact ⟨fun z hz => Nat.lt_succ_of_lt (h1 z hz), by rw [hc]; exact Nat.lt_succ_self _⟩
def rv_sk (ins : Instr) (t k : Nat) (ev : rv_E) : Bool := match ins with
  | .iastore => Nat.beq t 1 && (Nat.beq k 0)
  | .bastore => Nat.beq k 0 && ((Nat.beq t 0 && (rv_le (Int.negSucc 127) ev.1 && rv_le ev.2.1 (Int.ofNat 127))) || (Nat.beq t 3 && (rv_le 0 ev.1 && rv_le ev.2.1 1)))
  | .lastore => Nat.beq t 2 && Nat.beq k 1
  | _ => false
theorem rv_byte {z : Int} (h1 : -128 ≤ z) (h2 : z ≤ 127) : vp_nar .byte (Int32.ofInt z) = Int32.ofInt z := by
  rw [vp_nar_byte]
  apply Int32.toInt_inj.mp
  rw [Int8.toInt_toInt32, Int32.toInt_toInt8, rv_of32 (by rw [rv_lo_eq]; omega) (by rw [rv_hi_eq]; omega)]
  rw [Int.bmod_eq_of_le (by omega) (by omega)]
theorem rv_bool {z : Int} (h1 : 0 ≤ z) (h2 : z ≤ 1) : vp_nar .boolean (Int32.ofInt z) = Int32.ofInt z := by
  rcases rv_01 h1 h2 with q | q <;> rw [q] <;> decide
theorem rv_o_ast (Cx : rv_Cx p s m args c cc own nL Ts D cl cy A st) {ins : Instr} (hdg : decode cc pc = .ok (ins, 1)) {q i v k : Nat} {a a' : rv_Ar} {ei ev : rv_E} (hq : X[q]? = some (.inr a)) (hi : E[i]? = some ei) (hv : E[v]? = some ev) (h1 : rv_idx ei a.2.1 = true) (h2 : rv_sk ins a.1 k ev = true) (ho : rv_wr E a ei ev v E.length = some a')
    (ok : rv_Ok p l e R s m args below meth c Q D cl A cy nL ρ (pc + 1) (E ++ [(0, 0, E.length, 0, [(6, [E.length, a.2.2.2.2.2, i, v])])]) L r (X.set q (.inr a')) cn sn) : rv_Ok p l e R s m args below meth c Q D cl A cy nL ρ pc E L ((k, v) :: (0, i) :: (2, q) :: r) X cn sn := by
  obtain ⟨hx, hbb, -, hown, hts, hK, -⟩ := Cx
  intro g ls H locs RR
  obtain ⟨b1, b2, -⟩ := RR.1 i ei hi
  obtain ⟨v1, v2, -⟩ := RR.1 v ev hv
  obtain ⟨tz, hin, hcl⟩ := rv_idx_ok h1 b1 b2
  have hvl : v < E.length := (List.getElem?_eq_some_iff.mp hv).1
  have hr : ∀ a ∈ r, rv_ok E.length X.length a := fun a h => RR.kK a (List.mem_cons_of_mem _ (List.mem_cons_of_mem _ (List.mem_cons_of_mem _ h)))
  have hok4 := RR.2.2.1.2.2.2 _ (List.mem_of_getElem? hq)
  have hil : i < E.length := (List.getElem?_eq_some_iff.mp hi).1
  obtain ⟨w1, w2, w3, w4, w5⟩ := rv_wr_ok RR.1 (RR.2.1 q a hq) hok4.1 hvl b1 b2 v1 v2 ho
  have hids : ∀ z ∈ a'.2.2.2.2.1, z.2 < E.length := fun z hz => (w4 z hz).elim (fun h => hok4.1 z h) (fun h => by rw [h]; exact hvl)
  have hP := RR.2.2.2.2.2.1
  have hD := RR.2.2.2.2.2.2.1
  have hS := RR.2.2.2.2.2.2.2
  have hw := rv_w_at (cy := cy) (g := g) hq
  have hfs : rv_fs (rv_up g E.length 0 (rv_wf1 (g.2.2.1 a.2.2.2.2.2) (g.1 i) (g.1 v))) (E.length + 1) [(6, [E.length, a.2.2.2.2.2, i, v])] := by
    intro z hz
    rw [List.mem_singleton.mp hz]
    have hag := rv_up_ag g E.length 0 0 (rv_wf1 (g.2.2.1 a.2.2.2.2.2) (g.1 i) (g.1 v))
    refine ⟨fun j hj => ?_, fun j => ?_⟩
    · simp only [List.mem_cons, List.not_mem_nil, or_false] at hj
      have := hok4.2
      omega
    · show (rv_up g E.length 0 (rv_wf1 (g.2.2.1 a.2.2.2.2.2) (g.1 i) (g.1 v))).2.2.1 E.length j = if j = ((rv_up g E.length 0 (rv_wf1 (g.2.2.1 a.2.2.2.2.2) (g.1 i) (g.1 v))).1 i).toNat then (rv_up g E.length 0 (rv_wf1 (g.2.2.1 a.2.2.2.2.2) (g.1 i) (g.1 v))).1 v else (rv_up g E.length 0 (rv_wf1 (g.2.2.1 a.2.2.2.2.2) (g.1 i) (g.1 v))).2.2.1 a.2.2.2.2.2 j
      rw [rv_up_selfc, hag.1 i hil, hag.1 v hvl, hag.2.2.1 _ hok4.2]
      rfl
  have kk : ∀ (H1 : Heap) (locs1 : List Loc), va_P D cl ((rv_w cy g X).set q (g.2.1 q, rv_d cy (rv_up g E.length 0 (rv_wf1 (g.2.2.1 a.2.2.2.2.2) (g.1 i) (g.1 v))) (.inr a'))) H1 → va_D A ((rv_w cy g X).set q (g.2.1 q, rv_d cy (rv_up g E.length 0 (rv_wf1 (g.2.2.1 a.2.2.2.2.2) (g.1 i) (g.1 v))) (.inr a'))) → va_S A s.heap H1 locs1 → W p l e R s m args below meth c H1 locs1 cn sn Q (F0 m (pc + 1) ls (r.map (rv_v g))) := by
    intro H1 locs1 hP1 hD1 hS1
    have h3 := ok _ ls H1 locs1 ((RR.sK hr).sA hq hids w5 w1 hfs hP1 hD1 hS1)
    rw [rv_K_ag (rv_up_ag g E.length X.length 0 _) hr] at h3
    exact h3
  obtain ⟨t, n, lo, hi2, tr, ct⟩ := a
  obtain ⟨t', n', lo', hi', tr', ct'⟩ := a'
  have w5 : ct' = E.length := w5
  subst w5
  have w2 : t' = t := w2
  have w3 : n' = n := w3
  subst w2
  subst w3
  have eI : (fun j => Int32.ofInt ((rv_up g E.length 0 (rv_wf1 (g.2.2.1 ct) (g.1 i) (g.1 v))).2.2.1 E.length j)) = upd (fun j => Int32.ofInt (g.2.2.1 ct j)) (Int32.ofInt (g.1 i)).toNatClampNeg (Int32.ofInt (g.1 v)) := by
    funext j
    rw [hcl, rv_up_selfc]
    show Int32.ofInt (if j = (g.1 i).toNat then g.1 v else g.2.2.1 ct j) = if j = (g.1 i).toNat then Int32.ofInt (g.1 v) else Int32.ofInt (g.2.2.1 ct j)
    by_cases hj : j = (g.1 i).toNat
    · rw [if_pos hj, if_pos hj]
    · rw [if_neg hj, if_neg hj]
  have eL : (fun j => Int64.ofInt ((rv_up g E.length 0 (rv_wf1 (g.2.2.1 ct) (g.1 i) (g.1 v))).2.2.1 E.length j)) = vp_updL (fun j => Int64.ofInt (g.2.2.1 ct j)) (Int32.ofInt (g.1 i)).toNatClampNeg (Int64.ofInt (g.1 v)) := by
    funext j
    rw [hcl, rv_up_selfc]
    show Int64.ofInt (if j = (g.1 i).toNat then g.1 v else g.2.2.1 ct j) = if j = (g.1 i).toNat then Int64.ofInt (g.1 v) else Int64.ofInt (g.2.2.1 ct j)
    by_cases hj : j = (g.1 i).toNat
    · rw [if_pos hj, if_pos hj]
    · rw [if_neg hj, if_neg hj]
  show W p l e R s m args below meth c H locs cn sn Q (F0 m pc ls (rv_v g (k, v) :: .int (Int32.ofInt (g.1 i)) :: .ref (g.2.1 q) :: r.map (rv_v g)))
  have m128 : (Int.negSucc 127) = (-128 : Int) := rfl
  have p127 : (Int.ofNat 127) = (127 : Int) := rfl
  cases ins <;> first
    | (cases h2; done)
    | (have h2 : (Nat.beq t' 1 && Nat.beq k 0) = true := h2
       rw [Bool.and_eq_true] at h2
       have ht : t' = 1 := Nat.eq_of_beq_eq_true h2.1
       have hk : k = 0 := Nat.eq_of_beq_eq_true h2.2
       subst ht
       subst hk
       refine va_iast (D := D) (cl := cl) hx hbb hK hP hD hS q 1 hw rfl hin hdg (fun H1 locs1 hP1 hD1 hS1 => kk H1 locs1 ?_ ?_ hS1)
       · simp only [rv_d]; rw [eI]; exact hP1
       · simp only [rv_d]; rw [eI]; exact hD1)
    | (have h2 : (Nat.beq t' 2 && Nat.beq k 1) = true := h2
       rw [Bool.and_eq_true] at h2
       have ht : t' = 2 := Nat.eq_of_beq_eq_true h2.1
       have hk : k = 1 := Nat.eq_of_beq_eq_true h2.2
       subst ht
       subst hk
       refine va_last (D := D) (cl := cl) hx hbb hK hP hD hS q 2 hw rfl hin hdg (fun H1 locs1 hP1 hD1 hS1 => kk H1 locs1 ?_ ?_ hS1)
       · simp only [rv_d]; rw [eL]; exact hP1
       · simp only [rv_d]; rw [eL]; exact hD1)
    | (have h2 : (Nat.beq k 0 && ((Nat.beq t' 0 && (rv_le (Int.negSucc 127) ev.1 && rv_le ev.2.1 (Int.ofNat 127))) || (Nat.beq t' 3 && (rv_le 0 ev.1 && rv_le ev.2.1 1)))) = true := h2
       rw [Bool.and_eq_true, Bool.or_eq_true, Bool.and_eq_true, Bool.and_eq_true, Bool.and_eq_true, Bool.and_eq_true, rv_le_iff, rv_le_iff, rv_le_iff, rv_le_iff, m128, p127] at h2
       have hk : k = 0 := Nat.eq_of_beq_eq_true h2.1
       subst hk
       rcases h2.2 with hb | hb
       · have ht : t' = 0 := Nat.eq_of_beq_eq_true hb.1
         subst ht
         have hn := rv_byte (z := g.1 v) (by omega) (by omega)
         refine va_bast (D := D) (cl := cl) hx hbb hK hP hD hS q 0 hw rfl hin hdg (fun H1 locs1 hP1 hD1 hS1 => kk H1 locs1 ?_ ?_ hS1)
         · simp only [rv_d]; rw [eI, ← hn]; exact hP1
         · simp only [rv_d]; rw [eI, ← hn]; exact hD1
       · have ht : t' = 3 := Nat.eq_of_beq_eq_true hb.1
         subst ht
         have hn := rv_bool (z := g.1 v) (by omega) (by omega)
         refine va_zast (D := D) (cl := cl) hx hbb hK hP hD hS q 3 hw rfl hin hdg (fun H1 locs1 hP1 hD1 hS1 => kk H1 locs1 ?_ ?_ hS1)
         · simp only [rv_d]; rw [eI, ← hn]; exact hP1
         · simp only [rv_d]; rw [eI, ← hn]; exact hD1)
end
